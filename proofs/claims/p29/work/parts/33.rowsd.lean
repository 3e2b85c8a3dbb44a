theorem sgn63 {a : Int64} (h : ¬ lg_cmp a 0 < 0) : bit64 a 63 = false := by
  rw [lg_lt] at h
  have h2 : ¬ a.toBitVec.toInt < 0 := h
  have : a.toBitVec.msb = false := by
    rw [BitVec.msb_eq_toInt, decide_eq_false h2]
  rw [BitVec.msb_eq_getLsbD_last] at this
  exact this
theorem shr_iff {a : Int64} (h : bit64 a 63 = false) {n : Nat} (hn : n < 64) : lg_cmp (((a.toUInt64 >>> ((nI n).toInt64.toUInt64 &&& Int64.toUInt64 63)).toInt64)) 0 = 0 ↔ lg_cmp (a >>> ((nI n).toInt64 &&& 63)) 0 = 0 := by
  have : ((a.toUInt64 >>> ((nI n).toInt64.toUInt64 &&& Int64.toUInt64 63)).toInt64) = a >>> ((nI n).toInt64 &&& 63) := w_ext fun i hi => by
    rw [w_ushr a hn, w_sshr a hn hi]
    by_cases q : n + i < 64
    · rw [if_pos q]
    · rw [if_neg q, w_big (by omega), h]
  rw [this]

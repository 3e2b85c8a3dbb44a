/-! ===== calls that ask little: trace, fault, kick, tell, as ===== -/
theorem sim_trace : Sim_trace RelW := by
  intro σ τ h
  obtain ⟨A, hA, hX, hM⟩ := id h
  refine ⟨aT A, σ, τ, ?_, ?_, h⟩
  · unfold FX8_trace; rw [hX.2.2.2.2.2.2.1]
  · unfold FX9_trace; rw [hM.2.2.2.2.2.2.1]
theorem sim_fault : Sim_fault RelW := by
  intro σ τ h
  obtain ⟨A, hA, hX, hM⟩ := id h
  refine ⟨aF A, σ, τ, ?_, ?_, h⟩
  · unfold FX8_fault; rw [hX.2.2.2.2.2.2.2]
  · unfold FX9_fault; rw [hM.2.2.2.2.2.2.2]
/-- the trace becomes another -/
def wT (A : As) (t : Int32) : As := (A.1, A.2.1, A.2.2.1, A.2.2.2.1, A.2.2.2.2.1, A.2.2.2.2.2.1, t, A.2.2.2.2.2.2.2)
def wF (A : As) (f : Int32) : As := (A.1, A.2.1, A.2.2.1, A.2.2.2.1, A.2.2.2.2.1, A.2.2.2.2.2.1, A.2.2.2.2.2.2.1, f)
theorem rx_T {A : As} {σ : Mem} (h : RX A σ) (t : Int32) : RX (wT A t) (setI σ 0 11 t) := ⟨h.1, h.2.1, h.2.2.1, h.2.2.2.1, h.2.2.2.2.1, h.2.2.2.2.2.1, rfl, h.2.2.2.2.2.2.2⟩
theorem rx_F {A : As} {σ : Mem} (h : RX A σ) (f : Int32) : RX (wF A f) (setI σ 0 12 f) := ⟨h.1, h.2.1, h.2.2.1, h.2.2.2.1, h.2.2.2.2.1, h.2.2.2.2.2.1, h.2.2.2.2.2.2.1, rfl⟩
theorem rm_T {A : As} {τ : Mem} (h : RM A τ) (t : Int32) : RM (wT A t) (setI τ 0 51 t) := ⟨h.1, h.2.1, h.2.2.1, h.2.2.2.1, h.2.2.2.2.1, h.2.2.2.2.2.1, rfl, h.2.2.2.2.2.2.2⟩
theorem rm_F {A : As} {τ : Mem} (h : RM A τ) (f : Int32) : RM (wF A f) (setI τ 0 0 f) := ⟨h.1, h.2.1, h.2.2.1, h.2.2.2.1, h.2.2.2.2.1, h.2.2.2.2.2.1, h.2.2.2.2.2.2.1, rfl⟩
theorem wa_T {A : As} (h : WA A) (t : Int32) : WA (wT A t) := h
theorem wa_F {A : As} (h : WA A) (f : Int32) : WA (wF A f) := h
/-- a trace that a number was left in -/
def tr1 (t n : Int32) : Int32 := 31 * t + n
theorem lt_eq {A : As} {σ : Mem} (h : RX A σ) (n : Int32) : FX8_leaveTrace σ n = some (setI σ 0 11 (tr1 (aT A) n)) := by
  unfold FX8_leaveTrace
  rw [h.2.2.2.2.2.2.1]
  rfl
theorem tc_eq {A : As} {τ : Mem} (h : RM A τ) (n : Int32) : FX9_traced τ n = some (setI τ 0 51 (tr1 (aT A) n)) := by
  unfold FX9_traced
  rw [h.2.2.2.2.2.2.1]
  rfl
theorem dk3 {Y : Yd} (h : WFY Y) {k : Nat} (hk : k < db Y) : dk Y k = 0 ∨ dk Y k = 1 ∨ dk Y k = 2 := by
  have := (h.2.2.2.2 k hk).1
  omega
theorem sim_kick : Sim_kick RelW := by
  intro σ τ a h
  obtain ⟨A, hA, hX, hM⟩ := id h
  have h6 := hA.1.2.1
  unfold FX8_kick FX9_kick
  rw [hab_eq hX.1.2.2.1 h6, nob_eq hM.1.2.2.1 h6, bi_some, bi_some]
  by_cases hk : 0 ≤ a.toInt ∧ a.toInt < db (aY A)
  · obtain ⟨k, hkb, rfl⟩ := blk hk
    rw [if_pos hk, if_pos hk, if_neg (by decide), if_pos rfl, kin_eq hX.1 h6 hkb, bi_some, rd_in (by omega) (by omega), hM.1.2.2.2.2.1 k hkb]
    rcases dk3 hA.1 hkb with e | e | e
    · rw [e, if_neg (by decide), if_neg (by decide)]
      unfold FX8_kick_30 FX9_kick_26
      rw [if_pos rfl]
      unfold FX8_kick_41
      rw [lt_eq hX, tc_eq hM, bv_some, bv_some, if_pos rfl, rd_in (by omega) (by omega), show (setI τ 0 51 (tr1 (aT A) 4)).1 2 k = nI (dk (aY A) k) from hM.1.2.2.2.2.1 k hkb, e, if_neg (by decide)]
      exact ⟨_, _, _, rfl, rfl, _, wa_T hA _, rx_T hX _, rm_T hM _⟩
    · rw [e, if_neg (by decide), if_neg (by decide)]
      unfold FX8_kick_30 FX9_kick_26
      rw [if_pos rfl]
      unfold FX8_kick_41
      rw [lt_eq hX, tc_eq hM, bv_some, bv_some, if_pos rfl, rd_in (by omega) (by omega), show (setI τ 0 51 (tr1 (aT A) 4)).1 2 k = nI (dk (aY A) k) from hM.1.2.2.2.2.1 k hkb, e, if_neg (by decide)]
      exact ⟨_, _, _, rfl, rfl, _, wa_T hA _, rx_T hX _, rm_T hM _⟩
    · rw [e, if_pos (by decide), if_pos (by decide)]
      unfold FX8_kick_30 FX9_kick_26
      rw [if_neg (by decide)]
      unfold FX8_kick_41
      rw [lt_eq hX, tc_eq hM, bv_some, bv_some, if_neg (by decide), rd_in (by omega) (by omega), show (setI τ 0 51 (tr1 (aT A) 5)).1 2 k = nI (dk (aY A) k) from hM.1.2.2.2.2.1 k hkb, e, if_pos (by decide)]
      exact ⟨_, _, _, rfl, rfl, _, wa_T hA _, rx_T hX _, rm_T hM _⟩
  · rw [if_neg hk, if_neg hk, if_pos rfl, if_neg (by decide)]
    exact ⟨_, _, _, rfl, rfl, h⟩
/-- a call's fault is 0, it is refused; or it has one -/
theorem rf_eq (τ : Mem) (r : Int32) : FX9_refused τ r = some (r, setI τ 0 0 0) := rfl
theorem fd_eq (τ : Mem) (f : Int32) : FX9_failed τ f = some (-10 - f, setI τ 0 0 f) := rfl
theorem fy_eq (σ : Mem) (f : Int32) : FX8_faulty σ f = some (-10 - f, setI σ 0 12 f) := rfl
theorem set2 {σ : Mem} {o k : Nat} {v w : Int32} : setI (setI σ o k v) o k w = setI σ o k w := by
  unfold setI
  refine Prod.ext ?_ rfl
  funext a
  by_cases ha : a = o
  · subst ha
    simp only [va_up_self]
    funext b
    by_cases hb : b = k
    · subst hb; simp [upd]
    · simp [upd, hb]
  · simp only [va_up_ne _ _ ha]
theorem in02 (τ : Mem) (a : Int32) : FX9_in τ (a.toInt64) (0 : Int64) (2 : Int64) = some ((if 0 ≤ a.toInt ∧ a.toInt ≤ 2 then (1 : Int32) else 0), τ) := by
  rw [in_eq, i64_toInt]; rfl
theorem ltz {b : Int32} : b < 0 ↔ b.toInt < 0 := toInt_lt
theorem le2 {b : Int32} : b ≤ 2 ↔ b.toInt ≤ 2 := toInt_le
theorem as_x {A : As} {σ : Mem} (hA : WA A) (hX : RX A σ) (a b : Int32) : FX8_as σ a b = some (if 0 ≤ a.toInt ∧ a.toInt < db (aY A) then (if 0 ≤ b.toInt ∧ b.toInt ≤ 2 then (if b ≤ nI (dk (aY A) a.toInt.toNat) then (1, setI σ 0 12 0) else (-12, setI σ 0 12 2)) else (-2, setI σ 0 12 0)) else (-1, setI σ 0 12 0)) := by
  have h6 := hA.1.2.1
  unfold FX8_as
  have hX0 := rx_F hX 0
  rw [nm_eq, hab_eq hX0.1.2.2.1 h6, bi_some]
  by_cases hk : 0 ≤ a.toInt ∧ a.toInt < db (aY A)
  · have hk2 : 0 ≤ a.toInt ∧ a.toInt < db (aY (wF A 0)) := hk
    obtain ⟨k, hkb, rfl⟩ := blk hk
    have htk : (nI k).toInt.toNat = k := by rw [nI_toInt (by omega)]; rfl
    rw [if_pos hk2, if_pos hk, if_neg (by decide), htk]
    by_cases h1 : b < 0
    · rw [if_pos h1, if_neg (by rw [ltz] at h1; omega)]
    · rw [if_neg h1]
      by_cases h2 : b ≤ 2
      · rw [if_pos h2, if_pos (by rw [ltz] at h1; rw [le2] at h2; omega), kin_eq hX0.1 h6 hkb, bi_some]
        have e : dk (aY (wF A 0)) k = dk (aY A) k := rfl
        rw [e]
        by_cases hc : b ≤ nI (dk (aY A) k)
        · rw [if_pos hc, if_pos hc]
        · rw [if_neg hc, if_neg hc, fy_eq, bi_some, set2]; rfl
      · rw [if_neg h2, if_neg (by rw [le2] at h2; omega)]
  · have hk2 : ¬ (0 ≤ a.toInt ∧ a.toInt < db (aY (wF A 0))) := hk
    rw [if_neg hk2, if_neg hk, if_pos rfl]
theorem as_m {A : As} {τ : Mem} (hA : WA A) (hM : RM A τ) (a b : Int32) : FX9_as τ a b = some (if 0 ≤ a.toInt ∧ a.toInt < db (aY A) then (if 0 ≤ b.toInt ∧ b.toInt ≤ 2 then (if b ≤ nI (dk (aY A) a.toInt.toNat) then (1, setI τ 0 0 0) else (-12, setI τ 0 0 2)) else (-2, setI τ 0 0 0)) else (-1, setI τ 0 0 0)) := by
  have h6 := hA.1.2.1
  unfold FX9_as
  rw [nob_eq hM.1.2.2.1 h6, bi_some]
  by_cases hk : 0 ≤ a.toInt ∧ a.toInt < db (aY A)
  · obtain ⟨k, hkb, rfl⟩ := blk hk
    have htk : (nI k).toInt.toNat = k := by rw [nI_toInt (by omega)]; rfl
    rw [if_pos hk, if_pos hk, if_pos rfl, in02, bi_some, htk]
    by_cases hr : 0 ≤ b.toInt ∧ b.toInt ≤ 2
    · rw [if_pos hr, if_pos hr, if_neg (by decide), rd_in (by omega) (by omega), hM.1.2.2.2.2.1 k hkb]
      by_cases hc : b ≤ nI (dk (aY A) k)
      · rw [if_pos hc, if_neg (by rw [toInt_lt]; rw [toInt_le] at hc; omega), rf_eq, bi_some]
      · rw [if_neg hc, if_pos (by rw [toInt_lt]; rw [toInt_le] at hc; omega), fd_eq, bi_some]; rfl
    · rw [if_neg hr, if_neg hr, if_pos rfl, rf_eq, bi_some]
  · rw [if_neg hk, if_neg hk, if_neg (by decide), rf_eq, bi_some]
theorem sim_as : Sim_as RelW := by
  intro σ τ a b h
  obtain ⟨A, hA, hX, hM⟩ := id h
  rw [as_x hA hX, as_m hA hM]
  by_cases hk : 0 ≤ a.toInt ∧ a.toInt < db (aY A)
  · rw [if_pos hk, if_pos hk]
    by_cases hr : 0 ≤ b.toInt ∧ b.toInt ≤ 2
    · rw [if_pos hr, if_pos hr]
      by_cases hc : b ≤ nI (dk (aY A) a.toInt.toNat)
      · rw [if_pos hc, if_pos hc]; exact ⟨_, _, _, rfl, rfl, _, wa_F hA _, rx_F hX 0, rm_F hM 0⟩
      · rw [if_neg hc, if_neg hc]; exact ⟨_, _, _, rfl, rfl, _, wa_F hA _, rx_F hX 2, rm_F hM 2⟩
    · rw [if_neg hr, if_neg hr]; exact ⟨_, _, _, rfl, rfl, _, wa_F hA _, rx_F hX 0, rm_F hM 0⟩
  · rw [if_neg hk, if_neg hk]; exact ⟨_, _, _, rfl, rfl, _, wa_F hA _, rx_F hX 0, rm_F hM 0⟩
theorem sta_eq {Y : Yd} {σ : Mem} (hS : XS Y σ) (h6 : db Y ≤ 6) {k : Nat} (hk : k < db Y) : FX1_startOf σ (nI k) = some (nI (ds Y k), σ) := by
  unfold FX1_startOf
  have ht : (nI k).toInt = k := nI_toInt (by omega)
  rw [hab_eq hS.2.2.1 h6, if_pos (by omega), bi_some, if_neg (by decide), rd_in (by omega) (by omega), hS.2.2.2.2.2.2.2.2.2.2.2.1 k hk]
theorem tb_eq {A : As} {σ : Mem} (hA : WA A) (h : RX A σ) {k : Nat} (hk : k < db (aY A)) : FX8_tellBlock σ (nI k) = some (nI (ds (aY A) k), setI σ 0 11 (tr1 (aT A) 1)) := by
  unfold FX8_tellBlock
  rw [lt_eq h, bv_some, sta_eq (rx_T h (tr1 (aT A) 1)).1 hA.1.2.1 hk, bi_some]
  rfl
theorem tl_eq {A : As} {σ : Mem} (hA : WA A) (h : RX A σ) {k : Nat} (hk : k < db (aY A)) : FX8_tellLog σ (nI k) = some (nI (ds (aY A) k) + 100, setI σ 0 11 (tr1 (tr1 (aT A) 2) 1)) := by
  unfold FX8_tellLog
  rw [lt_eq h, bv_some, tb_eq (A := wT A (tr1 (aT A) 2)) (wa_T hA _) (rx_T h (tr1 (aT A) 2)) hk, bi_some, set2]
  rfl
theorem ts_eq {A : As} {σ : Mem} (hA : WA A) (h : RX A σ) {k : Nat} (hk : k < db (aY A)) : FX8_tellSledge σ (nI k) = some (nI (ds (aY A) k) + 100 + nI (ds (aY A) k), setI σ 0 11 (tr1 (tr1 (tr1 (tr1 (aT A) 3) 2) 1) 1)) := by
  unfold FX8_tellSledge
  have h2 := rx_T h (tr1 (tr1 (tr1 (aT A) 3) 2) 1)
  rw [lt_eq h, bv_some, tl_eq (A := wT A (tr1 (aT A) 3)) (wa_T hA _) (rx_T h (tr1 (aT A) 3)) hk, bi_some, set2]
  show bi (FX8_tellBlock (setI σ 0 11 (tr1 (tr1 (tr1 (aT A) 3) 2) 1)) (nI k)) _ = _
  rw [tb_eq (A := wT A (tr1 (tr1 (tr1 (aT A) 3) 2) 1)) (wa_T hA _) h2 hk, bi_some, set2]
  rfl
theorem tc2 (τ : Mem) (t n : Int32) : FX9_traced (setI τ 0 51 t) n = some (setI τ 0 51 (tr1 t n)) := by
  have : FX9_traced (setI τ 0 51 t) n = some (setI (setI τ 0 51 t) 0 51 (tr1 t n)) := rfl
  rw [this, set2]
/-- what telling answers, and what it leaves -/
def tellR (Y : Yd) (k : Nat) : Int32 := if dk Y k = 0 then nI (ds Y k) else if dk Y k = 1 then nI (ds Y k) + 100 else nI (ds Y k) + 100 + nI (ds Y k)
def tellT (Y : Yd) (k : Nat) (t : Int32) : Int32 := if dk Y k = 0 then tr1 t 1 else if dk Y k = 1 then tr1 (tr1 t 2) 1 else tr1 (tr1 (tr1 (tr1 t 3) 2) 1) 1
theorem tell_x {A : As} {σ : Mem} (hA : WA A) (h : RX A σ) {k : Nat} (hk : k < db (aY A)) : FX8_tell σ (nI k) = some (tellR (aY A) k, setI σ 0 11 (tellT (aY A) k (aT A))) := by
  unfold FX8_tell tellR tellT
  have h6 := hA.1.2.1
  have ht : (nI k).toInt = k := nI_toInt (by omega)
  rw [hab_eq h.1.2.2.1 h6, if_pos (show 0 ≤ (nI k).toInt ∧ (nI k).toInt < db (aY A) by omega), bi_some, if_neg (show ¬ (1 : Int32) = 0 by decide), kin_eq h.1 h6 hk, bi_some]
  rcases dk3 hA.1 hk with e | e | e
  · rw [e, if_neg (show ¬ nI 0 = (1 : Int32) by decide), if_neg (show ¬ nI 0 = (2 : Int32) by decide), tb_eq hA h hk]; rfl
  · rw [e, if_pos (show nI 1 = (1 : Int32) from rfl), tl_eq hA h hk]; rfl
  · rw [e, if_neg (show ¬ nI 2 = (1 : Int32) by decide), if_pos (show nI 2 = (2 : Int32) from rfl), ts_eq hA h hk]; rfl
theorem tell_m {A : As} {τ : Mem} (hA : WA A) (h : RM A τ) {k : Nat} (hk : k < db (aY A)) : FX9_tell τ (nI k) = some (tellR (aY A) k, setI τ 0 51 (tellT (aY A) k (aT A))) := by
  unfold FX9_tell tellR tellT
  have h6 := hA.1.2.1
  have ht : (nI k).toInt = k := nI_toInt (by omega)
  have end_ : ∀ t : Int32, FX9_tell_51 (setI τ 0 51 t) (nI k) (nI (dk (aY A) k)) = some (if dk (aY A) k = 0 then nI (ds (aY A) k) else if dk (aY A) k = 1 then nI (ds (aY A) k) + 100 else nI (ds (aY A) k) + 100 + nI (ds (aY A) k), setI τ 0 51 t) := by
    intro t
    unfold FX9_tell_51
    rw [rd_in (by omega) (by omega), nm_eq, show (setI τ 0 51 t).1 3 k = nI (ds (aY A) k) from h.1.2.2.2.2.2 k hk]
    rcases dk3 hA.1 hk with e | e | e
    · rw [e, if_pos (show nI 0 = 0 from rfl)]; rfl
    · rw [e, if_neg (show ¬ nI 1 = 0 by decide), if_pos (show nI 1 = (1 : Int32) from rfl)]; rfl
    · rw [e, if_neg (show ¬ nI 2 = 0 by decide), if_neg (show ¬ nI 2 = (1 : Int32) by decide)]
      rw [show ((2 : Int32) * nI (ds (aY A) k) + 100) = nI (ds (aY A) k) + 100 + nI (ds (aY A) k) by
        rw [show (2 : Int32) = nI 2 from rfl, show (100 : Int32) = nI 100 from rfl, pk_mul, nI_add, nI_add, nI_add]
        congr 1; omega]
      rfl
  rw [nob_eq h.1.2.2.1 h6, if_pos (show 0 ≤ (nI k).toInt ∧ (nI k).toInt < db (aY A) by omega), bi_some, if_pos rfl, rd_in (by omega) (by omega), nm_eq, h.1.2.2.2.2.1 k hk]
  rcases dk3 hA.1 hk with e | e | e
  · have en := end_ (tr1 (aT A) 1)
    rw [e] at en ⊢
    rw [if_neg (show ¬ nI 0 = (2 : Int32) by decide), if_pos (show nI 0 ≤ 0 by decide)]
    unfold FX9_tell_36
    rw [tc_eq h, bv_some, if_neg (show ¬ nI 0 = (2 : Int32) by decide), en]
    rfl
  · have en := end_ (tr1 (tr1 (aT A) 2) 1)
    rw [e] at en ⊢
    rw [if_neg (show ¬ nI 1 = (2 : Int32) by decide), if_neg (show ¬ nI 1 ≤ 0 by decide), tc_eq h, bv_some]
    unfold FX9_tell_36
    rw [tc2, bv_some, if_neg (show ¬ nI 1 = (2 : Int32) by decide)]
    exact en
  · have en := end_ (tr1 (tr1 (tr1 (tr1 (aT A) 3) 2) 1) 1)
    rw [e] at en ⊢
    rw [if_pos (show nI 2 = (2 : Int32) from rfl), tc_eq h, bv_some, if_neg (show ¬ nI 2 ≤ 0 by decide), tc2, bv_some]
    unfold FX9_tell_36
    rw [tc2, bv_some, if_pos (show nI 2 = (2 : Int32) from rfl), tc2, bv_some]
    exact en
theorem sim_tell : Sim_tell RelW := by
  intro σ τ a h
  obtain ⟨A, hA, hX, hM⟩ := id h
  by_cases hk : 0 ≤ a.toInt ∧ a.toInt < db (aY A)
  · obtain ⟨k, hkb, rfl⟩ := blk hk
    exact ⟨_, _, _, tell_x hA hX hkb, tell_m hA hM hkb, _, wa_T hA _, rx_T hX _, rm_T hM _⟩
  · refine ⟨-1, σ, τ, ?_, ?_, h⟩
    · unfold FX8_tell
      rw [hab_eq hX.1.2.2.1 hA.1.2.1, if_neg hk]; rfl
    · unfold FX9_tell
      rw [nob_eq hM.1.2.2.1 hA.1.2.1, if_neg hk]; rfl

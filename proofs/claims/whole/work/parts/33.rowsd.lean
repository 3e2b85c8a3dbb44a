/-! ===== rows: the call ===== -/
theorem rows_56 {Y : Yd} (hY : WFY Y) {τ : Mem} (hM : MS' Y τ) {n : Nat} (hn : n ≤ 3) (tr : Int64) (q : Int32) : ∀ (m i fuel : Nat), i + m = n → m < fuel → FX9_rows_56 fuel τ (nI n) tr q (nI ((4 * db Y) ^ i)) (nI i) = FX9_rows_90 FU (heldM τ 0) (nI n) tr q (nI ((4 * db Y) ^ n)) (nI 0) (nI 0) := by
  have h6 := hY.2.1
  intro m
  induction m with
  | zero =>
    intro i fuel hi hf
    obtain ⟨f, rfl⟩ : ∃ f, fuel = f + 1 := ⟨fuel - 1, by omega⟩
    show BX9_rows_56 (FX9_rows_56 f) τ _ _ _ _ (nI i) = _
    unfold BX9_rows_56
    rw [if_pos (nI_le (by omega) (by omega)), hold0, bv_some, show i = n by omega]
    rfl
  | succ m ih =>
    intro i fuel hi hf
    obtain ⟨f, rfl⟩ : ∃ f, fuel = f + 1 := ⟨fuel - 1, by omega⟩
    show BX9_rows_56 (FX9_rows_56 f) τ _ _ _ _ (nI i) = _
    unfold BX9_rows_56
    rw [if_neg (nI_ge (by omega) (by omega)), hM.2.2.1, n4, pk_mul, nm_eq, nm_eq, nI_1, ← Nat.pow_succ]
    exact ih (i + 1) f (by omega) (by omega)
theorem sgn63 {a : Int64} (h : ¬ lg_cmp a 0 < 0) : bit64 a 63 = false := by
  rw [lg_lt] at h
  have h2 : ¬ a.toBitVec.toInt < 0 := h
  have : a.toBitVec.msb = false := by
    rw [BitVec.msb_eq_toInt, decide_eq_false h2]
  rw [BitVec.msb_eq_getLsbD_last] at this
  exact this
theorem shr_iff {a : Int64} (h : bit64 a 63 = false) {n : Nat} (hn : n < 64) : lg_cmp (((a.toUInt64 >>> ((nI n).toInt64.toUInt64 &&& Int64.toUInt64 63)).toInt64)) 0 = 0 ↔ lg_cmp (a >>> ((nI n).toInt64 &&& 63)) 0 = 0 := by
  have : ((a.toUInt64 >>> ((nI n).toInt64.toUInt64 &&& Int64.toUInt64 63)).toInt64) = a >>> ((nI n).toInt64 &&& 63) := w_ext fun i hi => by
    rw [w_ushr a hn, w_sshr a hn hi]
    by_cases q : n + i < 64
    · rw [if_pos q]
    · rw [if_neg q, w_big (by omega), h]
  rw [this]
theorem sim_rows : Sim_rows RelW := by
  intro σ τ a tr q h
  obtain ⟨A, hA, hX, hM⟩ := id h
  have h6 := hA.1.2.1
  have h36 := dn_le hA.1
  have hin : ∀ τ : Mem, FX9_in τ (a.toInt64) (1 : Int64) (3 : Int64) = some ((if 1 ≤ a.toInt ∧ a.toInt ≤ 3 then (1 : Int32) else 0), τ) := fun τ => by rw [in_eq, i64_toInt]; rfl
  by_cases hn : 1 ≤ a.toInt ∧ a.toInt ≤ 3
  · obtain ⟨n, hn', rfl⟩ := blk2 (n := 3) (a := a) (by omega)
    have hn1 : 1 ≤ n := by rw [nI_toInt (by omega)] at hn; omega
    by_cases hs : lg_cmp tr 0 < 0
    · refine ⟨-2, σ, τ, ?_, ?_, h⟩
      · unfold FX8_rows
        rw [if_neg (show ¬ nI n < (1 : Int32) from nI_nlt (b := 1) hn1 (by omega)), if_neg (show ¬ (3 : Int32) < nI n from nI_nlt (a := 3) hn' (by decide)), if_pos hs]
      · unfold FX9_rows
        rw [hin, if_pos hn, bi_some, if_neg (show ¬ (1 : Int32) = 0 by decide), if_pos hs]
    · have h63 := sgn63 hs
      have hsh := shr_iff h63 (show dn (aY A) < 64 by omega)
      by_cases ht : lg_cmp (tr >>> ((nI (dn (aY A))).toInt64 &&& 63)) 0 = 0
      · by_cases hq : -1 ≤ q.toInt ∧ q.toInt < n
        · obtain ⟨σ', x1, x2, x3⟩ := cnt_x hA hX ⟨hn1, hn'⟩ tr
          have hpw := pw24 (B := 4 * db (aY A)) (n := n) (by omega) hn'
          have hI0 : InM (aY A) T0 τ (heldM τ 0) := ⟨frm_ms (held_fr τ 0) hM.1, m_T0 hM, held_fr τ 0⟩
          obtain ⟨τ', m1, m2, m3⟩ := rm_90 hA.1 hA.2.1 (D := aD A) (n := n) ⟨hn1, hn'⟩ (tr := tr) hq ((4 * db (aY A)) ^ n) 0 FU (heldM τ 0) (Nat.zero_add _) (by show _ < 10000000; omega) hI0 (held_ok hM.2.1) (fun z hz => by cases hz)
          have hLe : flt (vr (aY A) (bit64 tr) n (aD A) (fun _ => false)) 0 ((4 * db (aY A)) ^ n) = rowL A (bit64 tr) n := by
            unfold rowL
            rw [wkc_flt, Nat.zero_mul]
          rw [hLe] at m1
          have hlen := wkc_len (aY A) (bit64 tr) n (aD A) (fun _ => false) 0
          change (rowL A (bit64 tr) n).length ≤ _ at hlen
          refine ⟨rowsA (4 * db (aY A)) n (rowL A (bit64 tr) n) q, σ', τ', ?_, ?_, A, hA, x2, rm_same hM m2.2.2 (w_ext fun i _ => by rw [m2.2.1 i, w_0]; rfl) m3⟩
          · unfold FX8_rows
            rw [if_neg (show ¬ nI n < (1 : Int32) from nI_nlt (b := 1) hn1 (by omega)), if_neg (show ¬ (3 : Int32) < nI n from nI_nlt (a := 3) hn' (by decide)), if_neg hs, cel_eq hX.1, bi_some, if_pos (hsh.mpr ht), if_neg (show ¬ q < -1 by rw [toInt_lt]; show ¬ q.toInt < -1; omega), if_pos (show q < nI n by rw [toInt_lt, nI_toInt (by omega)]; exact hq.2), x1, bi_some]
            unfold rowsA
            by_cases hqm : q = -1
            · rw [if_pos hqm, if_pos hqm]
            · rw [if_neg hqm, if_neg hqm]
              have hq0 : 0 ≤ q.toInt := by
                rcases (show q.toInt = -1 ∨ 0 ≤ q.toInt by omega) with w | w
                · exact absurd (Int32.toInt_inj.mp w) hqm
                · exact w
              obtain ⟨j, hj, rfl⟩ := blk (n := n) (a := q) ⟨hq0, hq.2⟩
              cases hL : rowL A (bit64 tr) n with
              | nil => rfl
              | cons z L' =>
                rw [hL] at hlen
                simp only [List.length_cons] at hlen
                rw [if_neg (show ¬ nI (z :: L').length = 0 from nI_ne0 (by simp) (by simp only [List.length_cons]; omega))]
                unfold FX2_pushAt
                rw [if_neg (nI_pos (by omega)), if_neg (show ¬ (3 : Int32) ≤ nI j from nI_ge (b := 3) (by omega) (by decide)), rd_in (by omega) (by decide), bi_some, x3 z (by rw [hL]; rfl) j hj, nI_toInt (by omega)]
                rfl
          · unfold FX9_rows
            rw [hin, if_pos hn, bi_some, if_neg (show ¬ (1 : Int32) = 0 by decide), if_neg hs, cem_eq hM.1, bi_some, if_pos ht, in_eq, sub1_64 (by omega), i64_toInt, show (-1 : Int64).toInt = -1 from rfl, if_pos (show -1 ≤ q.toInt ∧ q.toInt ≤ (n : Int) - 1 by omega), bi_some, if_neg (show ¬ (1 : Int32) = 0 by decide)]
            have := rows_56 hA.1 hM.1 hn' tr q n 0 FU (Nat.zero_add _) (by show n < 10000000; omega)
            rw [Nat.pow_zero] at this
            rw [show FX9_rows_56 FU τ (nI n) tr q 1 0 = _ from this]
            exact m1
        · refine ⟨-1, σ, τ, ?_, ?_, h⟩
          · unfold FX8_rows
            rw [if_neg (show ¬ nI n < (1 : Int32) from nI_nlt (b := 1) hn1 (by omega)), if_neg (show ¬ (3 : Int32) < nI n from nI_nlt (a := 3) hn' (by decide)), if_neg hs, cel_eq hX.1, bi_some, if_pos (hsh.mpr ht)]
            by_cases h1 : q < -1
            · rw [if_pos h1]
            · rw [if_neg h1, if_neg (by rw [toInt_lt] at h1 ⊢; rw [nI_toInt (by omega)]; change ¬ q.toInt < -1 at h1; omega)]
          · unfold FX9_rows
            rw [hin, if_pos hn, bi_some, if_neg (show ¬ (1 : Int32) = 0 by decide), if_neg hs, cem_eq hM.1, bi_some, if_pos ht, in_eq, sub1_64 (by omega), i64_toInt, show (-1 : Int64).toInt = -1 from rfl, if_neg (show ¬ (-1 ≤ q.toInt ∧ q.toInt ≤ (n : Int) - 1) by omega), bi_some, if_pos rfl]
      · refine ⟨-2, σ, τ, ?_, ?_, h⟩
        · unfold FX8_rows
          rw [if_neg (show ¬ nI n < (1 : Int32) from nI_nlt (b := 1) hn1 (by omega)), if_neg (show ¬ (3 : Int32) < nI n from nI_nlt (a := 3) hn' (by decide)), if_neg hs, cel_eq hX.1, bi_some, if_neg (fun w => ht (hsh.mp w))]
        · unfold FX9_rows
          rw [hin, if_pos hn, bi_some, if_neg (show ¬ (1 : Int32) = 0 by decide), if_neg hs, cem_eq hM.1, bi_some, if_neg ht]
  · refine ⟨-2, σ, τ, ?_, ?_, h⟩
    · unfold FX8_rows
      by_cases h1 : a < 1
      · rw [if_pos h1]
      · rw [if_neg h1, if_pos (by rw [toInt_lt] at h1 ⊢; change ¬ a.toInt < 1 at h1; show 3 < a.toInt; omega)]
    · unfold FX9_rows
      rw [hin, if_neg hn, bi_some, if_pos rfl]

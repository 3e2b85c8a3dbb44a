/-! ===== yard: both readers, from the text's first code on ===== -/
theorem ff_p0 {o : Nat} {σ : Mem} {i n : Nat} {cd : Nat → Int32} (hR : RdX o σ i n cd) (hn : n ≤ 60) (h0 : 0 < n) (f h w : Nat) : ff o σ i n h w (f + 1) 0 0 0 = if cd 0 = 105 then ff o σ i n h w f 0 0 1 else some (nI 0, σ) := by
  rw [ff_u]
  unfold BX7_firstFault_14
  rw [if_neg (nI_ge h0 (by omega)), hR 0 h0, bi_some, fit_0]
  by_cases e : cd 0 = 105
  · rw [if_pos e, if_pos e, bi_some, if_neg (show ¬ (1 : Int32) = 0 by decide), if_neg (show ¬ nI 0 = (1 : Int32) by decide), if_neg (show ¬ nI 0 = (2 : Int32) by decide), e, if_neg (show ¬ (105 : Int32) = 99 by decide), kos_eq, bi_some, if_pos (show kI 105 < 0 by decide), f101 _ _ _ _ _ _ _ (by omega) (by omega), if_pos ⟨by omega, by omega⟩]; rfl
  · rw [if_neg e, if_neg e, bi_some, if_pos rfl]
theorem ff_p1 {o : Nat} {σ : Mem} {i n : Nat} {cd : Nat → Int32} (hR : RdX o σ i n cd) (hn : n ≤ 60) (h0 : 1 < n) (f h w : Nat) : ff o σ i n h w (f + 1) 0 0 1 = if dgX (cd 1) then FX7_firstFault_14 o f σ (nI i) (nI n) (cd 1 - 48) (nI w) (nI 0) (nI 0) (nI 2) else some (nI 1, σ) := by
  rw [ff_u]
  unfold BX7_firstFault_14
  rw [if_neg (nI_ge h0 (by omega)), hR 1 h0, bi_some, fit_d _ _ _ _ (by omega)]
  by_cases e : dgX (cd 1)
  · rw [if_pos e, if_pos e, bi_some, if_neg (show ¬ (1 : Int32) = 0 by decide), if_pos (show nI 1 = (1 : Int32) from rfl), nm_eq, f101 _ _ _ _ _ _ _ (by omega) (by omega), if_pos ⟨by omega, by omega⟩]
  · rw [if_neg e, if_neg e, bi_some, if_pos rfl]
theorem ff_p2 {o : Nat} {σ : Mem} {i n : Nat} {cd : Nat → Int32} (hR : RdX o σ i n cd) (hn : n ≤ 60) (h0 : 2 < n) (f h w : Nat) : ff o σ i n h w (f + 1) 0 0 2 = if dgX (cd 2) then FX7_firstFault_14 o f σ (nI i) (nI n) (nI h) (cd 2 - 48) (nI 0) (nI 0) (nI 3) else some (nI 2, σ) := by
  rw [ff_u]
  unfold BX7_firstFault_14
  rw [if_neg (nI_ge h0 (by omega)), hR 2 h0, bi_some, fit_d _ _ _ _ (by omega)]
  by_cases e : dgX (cd 2)
  · rw [if_pos e, if_pos e, bi_some, if_neg (show ¬ (1 : Int32) = 0 by decide), if_neg (show ¬ nI 2 = (1 : Int32) by decide), if_pos (show nI 2 = (2 : Int32) from rfl), nm_eq, f101 _ _ _ _ _ _ _ (by omega) (by omega), if_pos ⟨by omega, by omega⟩]
  · rw [if_neg e, if_neg e, bi_some, if_pos rfl]
theorem dgX_iff (x : Int32) : (3 ≤ (x - 48).toInt ∧ (x - 48).toInt ≤ 6) ↔ dgX x := by
  constructor
  · intro h
    obtain ⟨j, hj, e⟩ := blk2 (n := 6) (a := x - 48) ⟨by omega, h.2⟩
    have h1 := h.1
    rw [e, nI_toInt (by omega)] at h1
    have ex : x = nI (j + 48) := by
      rw [← Int32.sub_add_cancel x 48, e, show (48 : Int32) = nI 48 from rfl, nI_add]
    rw [ex]
    show 51 ≤ (nI (j + 48)).toInt ∧ (nI (j + 48)).toInt ≤ 54
    rw [nI_toInt (by omega)]
    omega
  · intro h
    obtain ⟨d, h3, h6, -, e⟩ := dgX_n h
    rw [e, nI_toInt (by omega)]
    omega

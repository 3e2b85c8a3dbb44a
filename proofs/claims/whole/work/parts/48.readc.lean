/-! ===== yard: both readers, from the text's first code on ===== -/
theorem ff_p0 {o : Nat} {σ : Mem} {i n : Nat} {cd : Nat → Int32} (hR : RdX o σ i n cd) (hn : n ≤ 60) (h0 : 0 < n) (f h w : Nat) : ff o σ i n h w (f + 1) 0 0 0 = if cd 0 = 105 then ff o σ i n h w f 0 0 1 else some (nI 0, σ) := by
  rw [ff_u]
  unfold BX7_firstFault_14
  rw [if_neg (nI_ge h0 (by omega)), hR 0 h0, bi_some, fit_0]
  by_cases e : cd 0 = 105
  · rw [if_pos e, if_pos e, bi_some, if_neg (show ¬ (1 : Int32) = 0 by decide), if_neg (show ¬ nI 0 = (1 : Int32) by decide), if_neg (show ¬ nI 0 = (2 : Int32) by decide), e, if_neg (show ¬ (105 : Int32) = 99 by decide), kos_eq, bi_some, if_pos (show kI 105 < 0 by decide), f101 _ _ _ _ _ _ _ (by omega) (by omega), if_pos ⟨by omega, by omega⟩]; rfl
  · rw [if_neg e, if_neg e, bi_some, if_pos rfl]
theorem ff_p1 {o : Nat} {σ : Mem} {i n : Nat} {cd : Nat → Int32} (hR : RdX o σ i n cd) (hn : n ≤ 60) (h0 : 1 < n) (f h w : Nat) : ff o σ i n h w (f + 1) 0 0 1 = if dgX (cd 1) then FX7_firstFault_14 o f σ (nI i) (nI n) (cd 1 - 48) (nI w) (nI 0) (nI 0) (nI 2) else some (nI 1, σ) := by
  rw [ff_u]
  unfold BX7_firstFault_14
  rw [if_neg (nI_ge h0 (by omega)), hR 1 h0, bi_some, fit_d _ _ _ _ (by omega)]
  by_cases e : dgX (cd 1)
  · rw [if_pos e, if_pos e, bi_some, if_neg (show ¬ (1 : Int32) = 0 by decide), if_pos (show nI 1 = (1 : Int32) from rfl), nm_eq, f101 _ _ _ _ _ _ _ (by omega) (by omega), if_pos ⟨by omega, by omega⟩]
  · rw [if_neg e, if_neg e, bi_some, if_pos rfl]
theorem ff_p2 {o : Nat} {σ : Mem} {i n : Nat} {cd : Nat → Int32} (hR : RdX o σ i n cd) (hn : n ≤ 60) (h0 : 2 < n) (f h w : Nat) : ff o σ i n h w (f + 1) 0 0 2 = if dgX (cd 2) then FX7_firstFault_14 o f σ (nI i) (nI n) (nI h) (cd 2 - 48) (nI 0) (nI 0) (nI 3) else some (nI 2, σ) := by
  rw [ff_u]
  unfold BX7_firstFault_14
  rw [if_neg (nI_ge h0 (by omega)), hR 2 h0, bi_some, fit_d _ _ _ _ (by omega)]
  by_cases e : dgX (cd 2)
  · rw [if_pos e, if_pos e, bi_some, if_neg (show ¬ (1 : Int32) = 0 by decide), if_neg (show ¬ nI 2 = (1 : Int32) by decide), if_pos (show nI 2 = (2 : Int32) from rfl), nm_eq, f101 _ _ _ _ _ _ _ (by omega) (by omega), if_pos ⟨by omega, by omega⟩]
  · rw [if_neg e, if_neg e, bi_some, if_pos rfl]
theorem dgX_iff (x : Int32) : (3 ≤ (x - 48).toInt ∧ (x - 48).toInt ≤ 6) ↔ dgX x := by
  constructor
  · intro h
    obtain ⟨j, hj, e⟩ := blk2 (n := 6) (a := x - 48) ⟨by omega, h.2⟩
    have h1 := h.1
    rw [e, nI_toInt (by omega)] at h1
    have ex : x = nI (j + 48) := by
      rw [← Int32.sub_add_cancel x 48, e, show (48 : Int32) = nI 48 from rfl, nI_add]
    rw [ex]
    show 51 ≤ (nI (j + 48)).toInt ∧ (nI (j + 48)).toInt ≤ 54
    rw [nI_toInt (by omega)]
    omega
  · intro h
    obtain ⟨d, h3, h6, -, e⟩ := dgX_n h
    rw [e, nI_toInt (by omega)]
    omega
theorem fig_eq {τ : Mem} {a n p : Nat} {cd : Nat → Int32} (hcd : ∀ p, p < n → τ.1 30 (a + p) = cd p) (ha : a + n ≤ 240) (hp : p ≤ n) (h9 : τ.1 0 9 = nI p) : FX9_figure τ (nI a) (nI n) = if p < n ∧ dgX (cd p) then some (cd p - 48, setI τ 0 9 (nI (p + 1))) else some (-9, setI τ 0 9 (nI p)) := by
  have key : ∀ x : Int32, (bi (FX9_in τ ((x - 48).toInt64) (3 : Int64) (6 : Int64)) fun r12 σ11 => if r12 = 0 then (FX9_figure_38 σ11 (x - 48) r12 (0 : Int32) (σ11.1 0 9)) else (FX9_figure_38 σ11 (x - 48) r12 (1 : Int32) (σ11.1 0 9))) = if dgX x then some (x - 48, setI τ 0 9 (nI (p + 1))) else some (-9, setI τ 0 9 (nI p)) := by
    intro x
    rw [in_eq, i64_toInt, bi_some, show (3 : Int64).toInt = 3 from rfl, show (6 : Int64).toInt = 6 from rfl]
    by_cases e : dgX x
    · rw [if_pos ((dgX_iff x).mpr e), if_pos e, if_neg (show ¬ (1 : Int32) = 0 by decide)]
      unfold FX9_figure_38
      rw [h9, nI_1, nm_eq, if_neg (show ¬ (1 : Int32) = 0 by decide)]
    · rw [if_neg (fun q => e ((dgX_iff x).mp q)), if_neg e, if_pos rfl]
      unfold FX9_figure_38
      rw [h9, show nI p + (0 : Int32) = nI p from i_add0 _, nm_eq, if_pos rfl]
  unfold FX9_figure
  rw [coa_eq hcd ha hp h9, bi_some, nm_eq]
  by_cases h : p < n
  · rw [if_pos h, key]
    by_cases e : dgX (cd p)
    · rw [if_pos e, if_pos ⟨h, e⟩]
    · rw [if_neg e, if_neg (fun q => e q.2)]
  · rw [if_neg h, key, if_neg (show ¬ dgX (-9) by decide), if_neg (fun q => h q.1)]
theorem rd_all {o : Nat} {σ : Mem} {i n a : Nat} {cd : Nat → Int32} (hR : RdX o σ i n cd) (hn : n ≤ 60) (ha : a + n ≤ 240) {τ : Mem} (hcd : ∀ p, p < n → τ.1 30 (a + p) = cd p) : (∃ q τ', q ≤ n ∧ FX7_firstFault o σ (nI i) (nI n) = some (nI q, σ) ∧ FX9_readsYard τ (nI a) (nI n) = some (0, τ') ∧ τ'.1 0 9 = nI q ∧ FrR τ τ') ∨
    ∃ h w τ', 3 ≤ h ∧ h ≤ 6 ∧ 3 ≤ w ∧ w ≤ 6 ∧ FX7_firstFault o σ (nI i) (nI n) = some (-1, σ) ∧ FX9_readsYard τ (nI a) (nI n) = some (1, τ') ∧ FrR τ τ' ∧ RSt cd h w (h * w) τ' ∧ n = 3 + h * (w + 1) ∧ nB cd w (h * w) ≤ 6 ∧ nC cd w (h * w) ≤ 4 ∧ cd 1 - 48 = nI h ∧ cd 2 - 48 = nI w := by
  have hx : FX7_firstFault o σ (nI i) (nI n) = ff o σ i n 3 3 (9999999 + 1) 0 0 0 := rfl
  rw [hx]
  generalize ht : setI (setI (setI τ 0 9 0) 0 10 0) 0 11 0 = τ1
  have f1 : FrR τ τ1 := by
    rw [← ht]
    exact frR_t (frR_t (frR_0 _ _ (by omega)) (frR_0 _ _ (by omega))) (frR_0 _ _ (by omega))
  have c1 : ∀ p, p < n → τ1.1 30 (a + p) = cd p := fun p hp => by rw [f1.1 30 (by decide) (by decide) (by decide) (by decide)]; exact hcd p hp
  have e9 : τ1.1 0 9 = nI 0 := by rw [← ht, sI_ne (by decide), sI_ne (by decide), sI_eq]; rfl
  have e10 : τ1.1 0 10 = nI 0 := by rw [← ht, sI_ne (by decide), sI_eq]; rfl
  have e11 : τ1.1 0 11 = nI 0 := by rw [← ht, sI_eq]; rfl
  have hm : FX9_readsYard τ (nI a) (nI n) = (if (if 0 < n then cd 0 else -9) = (105 : Int32) then (nm (setI τ1 0 9 ((τ1.1 0 9) + (1 : Int32))) fun σ31 => bi (FX9_figure σ31 (nI a) (nI n)) fun r33 σ32 => nm (setI σ32 0 15 r33) fun σ34 => if 0 ≤ (σ34.1 0 15) then (bi (FX9_figure σ34 (nI a) (nI n)) fun r36 σ35 => FX9_readsYard_67 σ35 (nI a) (nI n) r36) else (FX9_readsYard_67 σ34 (nI a) (nI n) (-9 : Int32))) else (rz (0 : Int32) τ1)) := by
    unfold FX9_readsYard
    rw [nm_eq, nm_eq, nm_eq, ht, coa_eq c1 ha (Nat.zero_le n) e9, bi_some]
  have bad67 : ∀ τ2 : Mem, FX9_readsYard_67 τ2 (nI a) (nI n) (-9) = some (0, setI τ2 0 16 (-9)) := fun τ2 => by
    unfold FX9_readsYard_67
    rw [nm_eq, sI_eq, if_neg (show ¬ (0 : Int32) ≤ -9 by decide)]; rfl
  by_cases h0 : 0 < n
  · rw [if_pos h0] at hm
    rw [ff_p0 hR hn h0]
    by_cases e0 : cd 0 = 105
    · rw [if_pos e0, e9, nI_1] at hm
      rw [if_pos e0]
      generalize ht2 : setI τ1 0 9 (nI (0 + 1)) = τ2 at hm
      have f2 : FrR τ τ2 := by rw [← ht2]; exact frR_t f1 (frR_0 _ _ (by omega))
      have c2 : ∀ p, p < n → τ2.1 30 (a + p) = cd p := fun p hp => by rw [f2.1 30 (by decide) (by decide) (by decide) (by decide)]; exact hcd p hp
      have k9 : τ2.1 0 9 = nI 1 := by rw [← ht2, sI_eq]
      have k10 : τ2.1 0 10 = nI 0 := by rw [← ht2, sI_ne (by decide)]; exact e10
      have k11 : τ2.1 0 11 = nI 0 := by rw [← ht2, sI_ne (by decide)]; exact e11
      rw [nm_eq, fig_eq c2 ha (by omega) k9] at hm
      by_cases h1 : 1 < n ∧ dgX (cd 1)
      · obtain ⟨h, hh3, hh6, -, eh⟩ := dgX_n h1.2
        rw [if_pos h1, bi_some, eh, nm_eq, sI_eq, if_pos (nI_pos' (by omega))] at hm
        rw [ff_p1 hR hn h1.1, if_pos h1.2, eh]
        generalize ht3 : setI (setI τ2 0 9 (nI (1 + 1))) 0 15 (nI h) = τ3 at hm
        have f3 : FrR τ τ3 := by rw [← ht3]; exact frR_t f2 (frR_t (frR_0 _ _ (by omega)) (frR_0 _ _ (by omega)))
        have c3 : ∀ p, p < n → τ3.1 30 (a + p) = cd p := fun p hp => by rw [f3.1 30 (by decide) (by decide) (by decide) (by decide)]; exact hcd p hp
        have l9 : τ3.1 0 9 = nI 2 := by rw [← ht3, sI_ne (by decide), sI_eq]
        have l15 : τ3.1 0 15 = nI h := by rw [← ht3, sI_eq]
        have l10 : τ3.1 0 10 = nI 0 := by rw [← ht3, sI_ne (by decide), sI_ne (by decide)]; exact k10
        have l11 : τ3.1 0 11 = nI 0 := by rw [← ht3, sI_ne (by decide), sI_ne (by decide)]; exact k11
        rw [fig_eq c3 ha (by omega) l9] at hm
        show (∃ q τ', q ≤ n ∧ ff o σ i n h 3 (9999997 + 1) 0 0 2 = some (nI q, σ) ∧ _) ∨ ∃ h' w τ', 3 ≤ h' ∧ h' ≤ 6 ∧ 3 ≤ w ∧ w ≤ 6 ∧ ff o σ i n h 3 (9999997 + 1) 0 0 2 = some (-1, σ) ∧ _
        by_cases h2 : 2 < n ∧ dgX (cd 2)
        · obtain ⟨w, hw3, hw6, -, ew⟩ := dgX_n h2.2
          rw [if_pos h2, bi_some, ew] at hm
          unfold FX9_readsYard_67 at hm
          rw [nm_eq, sI_eq, if_pos (nI_pos' (by omega))] at hm
          rw [ff_p2 hR hn h2.1, if_pos h2.2, ew]
          generalize ht4 : setI (setI τ3 0 9 (nI (2 + 1))) 0 16 (nI w) = τ4 at hm
          have f4 : FrR τ τ4 := by rw [← ht4]; exact frR_t f3 (frR_t (frR_0 _ _ (by omega)) (frR_0 _ _ (by omega)))
          have c4 : ∀ p, p < n → τ4.1 30 (a + p) = cd p := fun p hp => by rw [f4.1 30 (by decide) (by decide) (by decide) (by decide)]; exact hcd p hp
          have m9 : τ4.1 0 9 = nI 3 := by rw [← ht4, sI_ne (by decide), sI_eq]
          have m15 : τ4.1 0 15 = nI h := by rw [← ht4, sI_ne (by decide), sI_ne (by decide)]; exact l15
          have m16 : τ4.1 0 16 = nI w := by rw [← ht4, sI_eq]
          have m10 : τ4.1 0 10 = nI 0 := by rw [← ht4, sI_ne (by decide), sI_ne (by decide)]; exact l10
          have m11 : τ4.1 0 11 = nI 0 := by rw [← ht4, sI_ne (by decide), sI_ne (by decide)]; exact l11
          have p0 : pP w 0 = 3 := by unfold pP; rw [if_pos (Nat.zero_mod w), Nat.zero_div]
          have hw36 : h * w ≤ 6 * 6 := Nat.mul_le_mul (by omega) (by omega)
          have hl := rd_loop (o := o) (σ := σ) (i := i) (n := n) (h := h) (w := w) (a := a) (cd := cd) hR hn ha (by omega) (by omega) hw3 (h * w) 0 9999997 FU τ4 (Nat.zero_add _) (by omega) (by show h * w < 10000000; omega) c4 ⟨m10, m11, m15, m16, fun j hj => absurd hj (Nat.not_lt_zero j), fun j hj => absurd hj (Nat.not_lt_zero j)⟩ (by rw [p0]; exact m9) (Nat.zero_le _) (Nat.zero_le _) (by rw [p0]; omega)
          rw [p0] at hl
          rcases both_t f4 hl with ⟨q, τ', a1, a2, a3, a4, a5⟩ | ⟨τ', a1, a2, a3, a4, a5, a6, a7⟩
          · exact Or.inl ⟨q, τ', a1, a2, hm.trans a3, a4, a5⟩
          · exact Or.inr ⟨h, w, τ', hh3, hh6, hw3, hw6, a1, hm.trans a2, a3, a4, a5, a6, a7, rfl, rfl⟩
        · rw [if_neg h2, bi_some, bad67] at hm
          refine Or.inl ⟨2, _, by omega, ?_, hm, by rw [sI_ne (by decide), sI_eq], frR_t f3 (frR_t (frR_0 _ _ (by omega)) (frR_0 _ _ (by omega)))⟩
          by_cases h2n : 2 < n
          · rw [ff_p2 hR hn h2n, if_neg (fun q => h2 ⟨h2n, q⟩)]
          · have en : n = 2 := by omega
            have := ff_end (o := o) (σ := σ) (i := i) (n := n) (h := h) (w := 3) hn (by omega) (by omega) 9999997 0 0
            rw [if_neg (by omega), en] at this
            rw [en]; exact this
      · rw [if_neg h1, bi_some, nm_eq, sI_eq, if_neg (show ¬ (0 : Int32) ≤ -9 by decide), bad67] at hm
        refine Or.inl ⟨1, _, by omega, ?_, hm, by rw [sI_ne (by decide), sI_ne (by decide), sI_eq], frR_t f2 (frR_t (frR_t (frR_0 _ _ (by omega)) (frR_0 _ _ (by omega))) (frR_0 _ _ (by omega)))⟩
        show ff o σ i n 3 3 (9999998 + 1) 0 0 1 = _
        by_cases h1n : 1 < n
        · rw [ff_p1 hR hn h1n, if_neg (fun q => h1 ⟨h1n, q⟩)]
        · have en : n = 1 := by omega
          have := ff_end (o := o) (σ := σ) (i := i) (n := n) (h := 3) (w := 3) hn (by omega) (by omega) 9999998 0 0
          rw [if_neg (by omega), en] at this
          rw [en]; exact this
    · rw [if_neg e0] at hm
      rw [if_neg e0]
      exact Or.inl ⟨0, τ1, Nat.zero_le _, rfl, hm, e9, f1⟩
  · have en : n = 0 := by omega
    rw [if_neg h0, if_neg (show ¬ (-9 : Int32) = 105 by decide)] at hm
    refine Or.inl ⟨0, τ1, Nat.zero_le _, ?_, hm, e9, f1⟩
    have := ff_end (o := o) (σ := σ) (i := i) (n := n) (h := 3) (w := 3) hn (by omega) (by omega) 9999999 0 0
    rw [if_neg (by omega), en] at this
    rw [en]; exact this

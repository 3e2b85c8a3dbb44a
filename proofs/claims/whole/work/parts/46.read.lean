/-! ===== yard: the two readers, step by step ===== -/
def RdX (o : Nat) (σ : Mem) (i n : Nat) (cd : Nat → Int32) : Prop := ∀ p, p < n → FX5_read o σ (nI i + nI p) = some (cd p, σ)
noncomputable def ff (o : Nat) (σ : Mem) (i n h w fuel k b p : Nat) : Option (Int32 × Mem) := FX7_firstFault_14 o fuel σ (nI i) (nI n) (nI h) (nI w) (nI k) (nI b) (nI p)
theorem ff_u (o : Nat) (σ : Mem) (i n h w f k b p : Nat) : ff o σ i n h w (f + 1) k b p = BX7_firstFault_14 o (FX7_firstFault_14 o f) σ (nI i) (nI n) (nI h) (nI w) (nI k) (nI b) (nI p) := rfl
theorem f101 (o : Nat) (rl : Mem → Int32 → Int32 → Int32 → Int32 → Int32 → Int32 → Int32 → Option (Int32 × Mem)) (σ : Mem) (x1 x2 x3 x4 : Int32) {k b p : Nat} (hk : k ≤ 5) (hb : b ≤ 7) : FX7_firstFault_101 o rl σ x1 x2 x3 x4 (nI k) (nI b) (nI p) = if k ≤ 4 ∧ b ≤ 6 then rl σ x1 x2 x3 x4 (nI k) (nI b) (nI (p + 1)) else some (nI p, σ) := by
  unfold FX7_firstFault_101
  by_cases h1 : k ≤ 4
  · rw [if_neg (show ¬ (4 : Int32) < nI k by rw [toInt_lt, nI_toInt (by omega)]; show ¬ (4 : Int) < k; omega)]
    by_cases h2 : b ≤ 6
    · rw [if_pos (show nI b ≤ (6 : Int32) from nI_le (b := 6) h2 (by omega)), if_pos ⟨h1, h2⟩, nm_eq, nI_1]
    · rw [if_neg (show ¬ nI b ≤ (6 : Int32) from nI_ge (a := 6) (by omega) (by omega)), if_neg (fun q => h2 q.2)]
  · rw [if_pos (show (4 : Int32) < nI k from nI_lt (a := 4) (by omega) (by omega)), if_neg (fun q => h1 q.1)]
theorem n12 {a d : Nat} (h1 : a ≠ d) (ha : a < 2 ^ 31) (hd : d < 2 ^ 31) : ¬ nI a = nI d := fun e => h1 ((nI_eq ha hd).mp e)
theorem tot_I (h w : Nat) : (3 : Int32) + (nI h * (nI w + (1 : Int32))) = nI (3 + h * (w + 1)) := by
  rw [nI_1, pk_mul]; exact nI_add 3 _
section FF
variable {o : Nat} {σ : Mem} {i n h w : Nat} {cd : Nat → Int32} (hR : RdX o σ i n cd) (hn : n ≤ 60) (hh : h < 10) (hw : w < 10)
theorem ff_end (hn : n ≤ 60) (hh : h < 10) (hw : w < 10) (f k b : Nat) : ff o σ i n h w (f + 1) k b n = some (if n = 3 + h * (w + 1) then -1 else nI n, σ) := by
  have hb : h * (w + 1) ≤ 9 * 10 := Nat.mul_le_mul (by omega) (by omega)
  rw [ff_u]
  unfold BX7_firstFault_14
  rw [if_pos (nI_le (Nat.le_refl n) (by omega)), tot_I]
  by_cases e : n = 3 + h * (w + 1)
  · rw [if_pos e, ← e, if_pos rfl]
  · rw [if_neg e, if_neg (n12 e (by omega) (by omega))]
theorem ff_past (hR : RdX o σ i n cd) (hn : n ≤ 60) (hh : h < 10) (hw : w < 10) (f k b : Nat) {p : Nat} (hp : p < n) (h3 : 3 ≤ p) (ht : ¬ p < 3 + h * (w + 1)) : ff o σ i n h w (f + 1) k b p = some (nI p, σ) := by
  rw [ff_u]
  unfold BX7_firstFault_14
  rw [if_neg (nI_ge hp (by omega)), hR p hp, bi_some, fit_s σ _ h3 (by omega) hh hw, if_neg ht, bi_some, if_pos rfl]
theorem ff_sep (hR : RdX o σ i n cd) (hn : n ≤ 60) (hh : h < 10) (hw : w < 10) (f : Nat) {k b : Nat} (hk : k ≤ 4) (hb : b ≤ 6) {p : Nat} (hp : p < n) (h3 : 3 ≤ p) (ht : p < 3 + h * (w + 1)) (hm : (p - 3) % (w + 1) = 0) : ff o σ i n h w (f + 1) k b p = if cd p = 59 then ff o σ i n h w f k b (p + 1) else some (nI p, σ) := by
  rw [ff_u]
  unfold BX7_firstFault_14
  rw [if_neg (nI_ge hp (by omega)), hR p hp, bi_some, fit_s σ _ h3 (by omega) hh hw, if_pos ht, if_pos hm]
  by_cases e : cd p = 59
  · rw [if_pos e, if_pos e, bi_some, if_neg (show ¬ (1 : Int32) = 0 by decide), if_neg (show ¬ nI p = (1 : Int32) from n12 (d := 1) (by omega) (by omega) (by omega)), if_neg (show ¬ nI p = (2 : Int32) from n12 (d := 2) (by omega) (by omega) (by omega)), e, if_neg (show ¬ (59 : Int32) = 99 by decide), kos_eq, bi_some, if_pos (show kI 59 < 0 by decide), f101 _ _ _ _ _ _ _ (by omega) (by omega), if_pos ⟨hk, hb⟩]; rfl
  · rw [if_neg e, if_neg e, bi_some, if_pos rfl]
theorem ff_sig (hR : RdX o σ i n cd) (hn : n ≤ 60) (hh : h < 10) (hw : w < 10) (f : Nat) {k b : Nat} (hk : k ≤ 4) (hb : b ≤ 6) {p : Nat} (hp : p < n) (h3 : 3 ≤ p) (ht : p < 3 + h * (w + 1)) (hm : ¬ (p - 3) % (w + 1) = 0) : ff o σ i n h w (f + 1) k b p = if okS (cd p) = true ∧ ¬ (gN (cd p) = 3 ∧ k = 4) ∧ ¬ (isB (cd p) = true ∧ b = 6) then ff o σ i n h w f (k + if gN (cd p) = 3 then 1 else 0) (b + if isB (cd p) = true then 1 else 0) (p + 1) else some (nI p, σ) := by
  rw [ff_u]
  unfold BX7_firstFault_14
  rw [if_neg (nI_ge hp (by omega)), hR p hp, bi_some, fit_s σ _ h3 (by omega) hh hw, if_pos ht, if_neg hm]
  by_cases e : okS (cd p) = true
  · rw [if_pos e, bi_some, if_neg (show ¬ (1 : Int32) = 0 by decide), if_neg (show ¬ nI p = (1 : Int32) from n12 (d := 1) (by omega) (by omega) (by omega)), if_neg (show ¬ nI p = (2 : Int32) from n12 (d := 2) (by omega) (by omega) (by omega))]
    by_cases e9 : cd p = 99
    · have g3 := (g3_iff (cd p)).mpr e9
      have hB : isB (cd p) = false := by rw [e9]; decide
      rw [if_pos e9, nm_eq, nI_1, f101 _ _ _ _ _ _ _ (by omega) (by omega)]
      simp only [g3, hB, e, true_and]
      by_cases k4 : k = 4
      · rw [if_neg (by omega), if_neg (by simp [k4])]
      · rw [if_pos (by omega), if_pos (by simp [k4])]
        rfl
    · have g3 : ¬ gN (cd p) = 3 := fun q => e9 ((g3_iff (cd p)).mp q)
      rw [if_neg e9, kos_eq, bi_some]
      cases hB : isB (cd p)
      · rw [kI_f hB, if_pos (show (-1 : Int32) < 0 by decide), f101 _ _ _ _ _ _ _ (by omega) (by omega), if_pos ⟨hk, hb⟩, if_pos ⟨e, fun q => g3 q.1, fun q => by cases q.1⟩, if_neg g3]
        rfl
      · rw [if_neg (kI_t hB).2, nm_eq, nI_1, f101 _ _ _ _ _ _ _ (by omega) (by omega)]
        by_cases b6 : b = 6
        · rw [if_neg (by omega), if_neg (fun q => q.2.2 ⟨rfl, b6⟩)]
        · rw [if_pos (by omega), if_pos ⟨e, fun q => g3 q.1, fun q => b6 q.2⟩, if_neg g3]
          rfl
  · rw [if_neg e, bi_some, if_pos rfl, if_neg (fun q => e q.1)]
end FF
/-! the reference's reader -/
theorem coa_eq {τ : Mem} {a n p : Nat} {cd : Nat → Int32} (hcd : ∀ p, p < n → τ.1 30 (a + p) = cd p) (ha : a + n ≤ 240) (hp : p ≤ n) (h9 : τ.1 0 9 = nI p) : FX9_codeAt τ (nI a) (nI n) = some (if p < n then cd p else -9, τ) := by
  unfold FX9_codeAt
  rw [h9]
  by_cases h : p < n
  · rw [if_neg (nI_ge h (by omega)), nI_add, rd_in (by omega) (by decide), hcd p h, if_pos h]
  · rw [if_pos (nI_le (by omega) (by omega)), if_neg h]
def rdA (τ : Mem) (c k p g : Nat) : Mem := setI (setI (setI τ 5 c (nI g)) 0 11 (nI (k + if g = 3 then 1 else 0))) 0 9 (nI (p + 1))
def rdB (τ : Mem) (c k b p g kn : Nat) : Mem := setI (setI (setI (setI (setI (setI τ 5 c (nI g)) 0 11 (nI (k + if g = 3 then 1 else 0))) 6 b (nI kn)) 7 b (nI c)) 0 10 (nI (b + 1))) 0 9 (nI (p + 1))
theorem rs163 {τ : Mem} {p : Nat} (h : τ.1 0 9 = nI p) : FX9_readsSign_163 τ = some (1, setI τ 0 9 (nI (p + 1))) := by
  unfold FX9_readsSign_163
  rw [h, nI_1, nm_eq]; rfl
theorem rs142 {τ : Mem} {p b c kn : Nat} (h9 : τ.1 0 9 = nI p) (h10 : τ.1 0 10 = nI b) (hb : b < 6) : FX9_readsSign_142 τ (nI c) (nI kn) (τ.1 0 10) = some (1, setI (setI (setI (setI τ 6 b (nI kn)) 7 b (nI c)) 0 10 (nI (b + 1))) 0 9 (nI (p + 1))) := by
  unfold FX9_readsSign_142
  rw [h10, stI_in hb (by decide), setI_ne1 (show 0 ≠ 6 by decide), h10, stI_in hb (by decide), setI_ne1 (show 0 ≠ 7 by decide), setI_ne1 (show 0 ≠ 6 by decide), h10, nI_1, nm_eq]
  refine rs163 ?_
  rw [setI_s1]
  show upd _ 10 _ 9 = _
  simp only [upd]
  rw [if_neg (by decide), setI_ne1 (show 0 ≠ 7 by decide), setI_ne1 (show 0 ≠ 6 by decide), h9]
theorem rs78_0 {τ : Mem} {p c k g : Nat} (h9 : τ.1 0 9 = nI p) (h11 : τ.1 0 11 = nI k) (hc : c < 36) (hg : g ≤ 5) (x : Int32) : FX9_readsSign_78 τ (nI c) x (nI g) 0 = some (1, rdA τ c k p g) := by
  have h102 : ∀ s0 : Nat, FX9_readsSign_102 (setI τ 5 c (nI g)) (nI c) x 0 (nI s0) (nI k) = some (1, setI (setI (setI τ 5 c (nI g)) 0 11 (nI (k + s0))) 0 9 (nI (p + 1))) := by
    intro s0
    unfold FX9_readsSign_102
    rw [nm_eq, if_pos rfl, nI_add]
    refine rs163 ?_
    rw [setI_s1]
    show upd _ 11 _ 9 = _
    simp only [upd]
    rw [if_neg (by decide), setI_ne1 (show 0 ≠ 5 by decide), h9]
  unfold FX9_readsSign_78 rdA
  rw [stI_in hc (by decide), setI_ne1 (show 0 ≠ 5 by decide), h11]
  by_cases e : g = 3
  · rw [e, if_pos (show nI 3 = (3 : Int32) from rfl), if_pos rfl]
    rw [e] at h102
    exact h102 1
  · rw [if_neg (show ¬ nI g = (3 : Int32) from n12 (d := 3) e (by omega) (by omega)), if_neg e]
    exact h102 0
theorem rs78_1 {τ : Mem} {p c k b g : Nat} {x : Int32} (h9 : τ.1 0 9 = nI p) (h10 : τ.1 0 10 = nI b) (h11 : τ.1 0 11 = nI k) (hc : c < 36) (hb : b < 6) (hg : g ≤ 5) (hx : isB x = true) : FX9_readsSign_78 τ (nI c) x (nI g) 1 = some (1, rdB τ c k b p g (kN x)) := by
  have h102 : ∀ s0 : Nat, FX9_readsSign_102 (setI τ 5 c (nI g)) (nI c) x 1 (nI s0) (nI k) = some (1, setI (setI (setI (setI (setI (setI τ 5 c (nI g)) 0 11 (nI (k + s0))) 6 b (nI (kN x))) 7 b (nI c)) 0 10 (nI (b + 1))) 0 9 (nI (p + 1))) := by
    intro s0
    have g9 : (setI (setI τ 5 c (nI g)) 0 11 (nI (k + s0))).1 0 9 = nI p := by
      rw [setI_s1]
      show upd _ 11 _ 9 = _
      simp only [upd]
      rw [if_neg (by decide), setI_ne1 (show 0 ≠ 5 by decide), h9]
    have g10 : (setI (setI τ 5 c (nI g)) 0 11 (nI (k + s0))).1 0 10 = nI b := by
      rw [setI_s1]
      show upd _ 11 _ 10 = _
      simp only [upd]
      rw [if_neg (by decide), setI_ne1 (show 0 ≠ 5 by decide), h10]
    unfold FX9_readsSign_102
    rw [nm_eq, if_neg (show ¬ (1 : Int32) = 0 by decide), nI_add]
    unfold isB at hx
    simp only [Bool.or_eq_true, decide_eq_true_eq] at hx
    rcases hx with (rfl | rfl) | rfl
    · rw [if_neg (by decide), if_neg (by decide)]
      exact rs142 (kn := 2) g9 g10 hb
    · rw [if_neg (by decide), if_pos rfl]
      exact rs142 (kn := 1) g9 g10 hb
    · rw [if_pos rfl]
      exact rs142 (kn := 0) g9 g10 hb
  unfold FX9_readsSign_78 rdB
  rw [stI_in hc (by decide), setI_ne1 (show 0 ≠ 5 by decide), h11]
  by_cases e : g = 3
  · rw [e, if_pos (show nI 3 = (3 : Int32) from rfl), if_pos rfl]
    rw [e] at h102
    exact h102 1
  · rw [if_neg (show ¬ nI g = (3 : Int32) from n12 (d := 3) e (by omega) (by omega)), if_neg e]
    exact h102 0
theorem rsg_eq {τ : Mem} {a n p b k c : Nat} {cd : Nat → Int32} (hcd : ∀ p, p < n → τ.1 30 (a + p) = cd p) (ha : a + n ≤ 240) (hp : p ≤ n) (h9 : τ.1 0 9 = nI p) (h10 : τ.1 0 10 = nI b) (h11 : τ.1 0 11 = nI k) (hc : c < 36) (hk : k ≤ 4) (hb : b ≤ 6) : FX9_readsSign τ (nI a) (nI n) (nI c) = if p < n ∧ okS (cd p) = true ∧ ¬ (gN (cd p) = 3 ∧ k = 4) ∧ ¬ (isB (cd p) = true ∧ b = 6) then some (1, if isB (cd p) = true then rdB τ c k b p (gN (cd p)) (kN (cd p)) else rdA τ c k p (gN (cd p))) else some (0, τ) := by
  have hfail : ∀ x : Int32, okS x = false → (if x = (111 : Int32) then FX9_readsSign_41 τ (nI c) x (-9) 1 else if x = (108 : Int32) then FX9_readsSign_41 τ (nI c) x (-9) 1 else if x = (100 : Int32) then FX9_readsSign_41 τ (nI c) x (-9) 1 else FX9_readsSign_41 τ (nI c) x (-9) 0) = some (0, τ) := by
    intro x hx
    obtain ⟨h1, h2, h3, h4, h5, h6, h7, h8, h9⟩ := sg_no hx
    rw [if_neg h9, if_neg h8, if_neg h7]
    unfold FX9_readsSign_41
    rw [if_pos (show (-9 : Int32) < 0 by decide)]; rfl
  unfold FX9_readsSign
  rw [coa_eq hcd ha hp h9, bi_some, gof_eq, bi_some]
  by_cases hpn : p < n
  · rw [if_pos hpn]
    cases ho : okS (cd p)
    · rw [if_neg (show ¬ false = true by decide), if_neg (show ¬ (p < n ∧ false = true ∧ _) from fun q => by cases q.2.1)]
      exact hfail _ ho
    · rw [if_pos rfl]
      have hg5 := gN_le (cd p)
      cases hB : isB (cd p)
      · have hs : (if cd p = (111 : Int32) then FX9_readsSign_41 τ (nI c) (cd p) (nI (gN (cd p))) 1 else if cd p = (108 : Int32) then FX9_readsSign_41 τ (nI c) (cd p) (nI (gN (cd p))) 1 else if cd p = (100 : Int32) then FX9_readsSign_41 τ (nI c) (cd p) (nI (gN (cd p))) 1 else FX9_readsSign_41 τ (nI c) (cd p) (nI (gN (cd p))) 0) = FX9_readsSign_41 τ (nI c) (cd p) (nI (gN (cd p))) 0 := by
          have key : ∀ y : Int32, isB y = true → cd p ≠ y := fun y hy e => by rw [e, hy] at hB; cases hB
          rw [if_neg (key 111 (by decide)), if_neg (key 108 (by decide)), if_neg (key 100 (by decide))]
        rw [hs]
        unfold FX9_readsSign_41
        rw [if_neg (nI_pos (by omega))]
        have h62 : FX9_readsSign_62 τ (nI c) (cd p) (nI (gN (cd p))) 0 = some (1, rdA τ c k p (gN (cd p))) := by
          unfold FX9_readsSign_62
          rw [if_pos rfl]
          exact rs78_0 h9 h11 hc hg5 _
        by_cases g3 : gN (cd p) = 3
        · rw [if_pos (show nI (gN (cd p)) = (3 : Int32) by rw [g3]; rfl), h11]
          by_cases k4 : k = 4
          · rw [if_pos (show nI k = (4 : Int32) by rw [k4]; rfl), if_neg (fun q => q.2.2.1 ⟨g3, k4⟩)]; rfl
          · rw [if_neg (show ¬ nI k = (4 : Int32) from n12 (d := 4) k4 (by omega) (by omega)), if_pos ⟨hpn, rfl, fun q => k4 q.2, fun q => by cases q.1⟩, h62]; rfl
        · rw [if_neg (show ¬ nI (gN (cd p)) = (3 : Int32) from n12 (d := 3) g3 (by omega) (by omega)), if_pos ⟨hpn, rfl, fun q => g3 q.1, fun q => by cases q.1⟩, h62]; rfl
      · have hg0 : gN (cd p) = 0 ∧ (cd p = 100 ∨ cd p = 108 ∨ cd p = 111) := by
          have hx := hB
          unfold isB at hx
          simp only [Bool.or_eq_true, decide_eq_true_eq] at hx
          rcases hx with (e | e) | e
          · rw [e]; decide
          · rw [e]; decide
          · rw [e]; decide
        have hs : (if cd p = (111 : Int32) then FX9_readsSign_41 τ (nI c) (cd p) (nI (gN (cd p))) 1 else if cd p = (108 : Int32) then FX9_readsSign_41 τ (nI c) (cd p) (nI (gN (cd p))) 1 else if cd p = (100 : Int32) then FX9_readsSign_41 τ (nI c) (cd p) (nI (gN (cd p))) 1 else FX9_readsSign_41 τ (nI c) (cd p) (nI (gN (cd p))) 0) = FX9_readsSign_41 τ (nI c) (cd p) (nI (gN (cd p))) 1 := by
          by_cases e1 : cd p = (111 : Int32)
          · rw [if_pos e1]
          · rw [if_neg e1]
            by_cases e2 : cd p = (108 : Int32)
            · rw [if_pos e2]
            · rw [if_neg e2]
              rcases hg0.2 with e | e | e
              · rw [if_pos e]
              · exact absurd e e2
              · exact absurd e e1
        rw [hs]
        have g3 : ¬ gN (cd p) = 3 := by rw [hg0.1]; decide
        unfold FX9_readsSign_41
        rw [if_neg (nI_pos (by omega)), if_neg (show ¬ nI (gN (cd p)) = (3 : Int32) from n12 (d := 3) g3 (by omega) (by omega))]
        unfold FX9_readsSign_62
        rw [if_neg (show ¬ (1 : Int32) = 0 by decide), h10]
        by_cases b6 : b = 6
        · rw [if_pos (show nI b = (6 : Int32) by rw [b6]; rfl), if_neg (fun q => q.2.2.2 ⟨rfl, b6⟩)]; rfl
        · rw [if_neg (show ¬ nI b = (6 : Int32) from n12 (d := 6) b6 (by omega) (by omega)), if_pos ⟨hpn, rfl, fun q => g3 q.1, fun q => b6 q.2⟩, if_pos rfl]
          exact rs78_1 h9 h10 h11 hc (by omega) hg5 hB
  · rw [if_neg hpn, if_neg (show ¬ okS (-9) = true by decide), if_neg (show ¬ (p < n ∧ _) from fun q => hpn q.1)]
    exact hfail (-9) (by decide)

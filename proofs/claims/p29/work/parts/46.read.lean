/-! ===== yard: the two readers, step by step ===== -/
def RdX (o : Nat) (σ : Mem) (i n : Nat) (cd : Nat → Int32) : Prop := ∀ p, p < n → FX5_read o σ (nI i + nI p) = some (cd p, σ)
noncomputable def ff (o : Nat) (σ : Mem) (i n h w fuel k b p : Nat) : Option (Int32 × Mem) := FX7_firstFault_14 o fuel σ (nI i) (nI n) (nI h) (nI w) (nI k) (nI b) (nI p)
theorem ff_u (o : Nat) (σ : Mem) (i n h w f k b p : Nat) : ff o σ i n h w (f + 1) k b p = BX7_firstFault_14 o (FX7_firstFault_14 o f) σ (nI i) (nI n) (nI h) (nI w) (nI k) (nI b) (nI p) := rfl
theorem f101 (o : Nat) (rl : Mem → Int32 → Int32 → Int32 → Int32 → Int32 → Int32 → Int32 → Option (Int32 × Mem)) (σ : Mem) (x1 x2 x3 x4 : Int32) {k b p : Nat} (hk : k ≤ 5) (hb : b ≤ 7) : FX7_firstFault_101 o rl σ x1 x2 x3 x4 (nI k) (nI b) (nI p) = if k ≤ 4 ∧ b ≤ 6 then rl σ x1 x2 x3 x4 (nI k) (nI b) (nI (p + 1)) else some (nI p, σ) := by
  unfold FX7_firstFault_101
  by_cases h1 : k ≤ 4
  · rw [if_neg (show ¬ (4 : Int32) < nI k by rw [toInt_lt, nI_toInt (by omega)]; show ¬ (4 : Int) < k; omega)]
    by_cases h2 : b ≤ 6
    · rw [if_pos (show nI b ≤ (6 : Int32) from nI_le (b := 6) h2 (by omega)), if_pos ⟨h1, h2⟩, nm_eq, nI_1]
    · rw [if_neg (show ¬ nI b ≤ (6 : Int32) from nI_ge (a := 6) (by omega) (by omega)), if_neg (fun q => h2 q.2)]
  · rw [if_pos (show (4 : Int32) < nI k from nI_lt (a := 4) (by omega) (by omega)), if_neg (fun q => h1 q.1)]
theorem n12 {a d : Nat} (h1 : a ≠ d) (ha : a < 2 ^ 31) (hd : d < 2 ^ 31) : ¬ nI a = nI d := fun e => h1 ((nI_eq ha hd).mp e)
theorem tot_I (h w : Nat) : (3 : Int32) + (nI h * (nI w + (1 : Int32))) = nI (3 + h * (w + 1)) := by
  rw [nI_1, pk_mul]; exact nI_add 3 _
section FF
variable {o : Nat} {σ : Mem} {i n h w : Nat} {cd : Nat → Int32} (hR : RdX o σ i n cd) (hn : n ≤ 60) (hh : h < 10) (hw : w < 10)
theorem ff_end (hn : n ≤ 60) (hh : h < 10) (hw : w < 10) (f k b : Nat) : ff o σ i n h w (f + 1) k b n = some (if n = 3 + h * (w + 1) then -1 else nI n, σ) := by
  have hb : h * (w + 1) ≤ 9 * 10 := Nat.mul_le_mul (by omega) (by omega)
  rw [ff_u]
  unfold BX7_firstFault_14
  rw [if_pos (nI_le (Nat.le_refl n) (by omega)), tot_I]
  by_cases e : n = 3 + h * (w + 1)
  · rw [if_pos e, ← e, if_pos rfl]
  · rw [if_neg e, if_neg (n12 e (by omega) (by omega))]
theorem ff_past (hR : RdX o σ i n cd) (hn : n ≤ 60) (hh : h < 10) (hw : w < 10) (f k b : Nat) {p : Nat} (hp : p < n) (h3 : 3 ≤ p) (ht : ¬ p < 3 + h * (w + 1)) : ff o σ i n h w (f + 1) k b p = some (nI p, σ) := by
  rw [ff_u]
  unfold BX7_firstFault_14
  rw [if_neg (nI_ge hp (by omega)), hR p hp, bi_some, fit_s σ _ h3 (by omega) hh hw, if_neg ht, bi_some, if_pos rfl]
theorem ff_sep (hR : RdX o σ i n cd) (hn : n ≤ 60) (hh : h < 10) (hw : w < 10) (f : Nat) {k b : Nat} (hk : k ≤ 4) (hb : b ≤ 6) {p : Nat} (hp : p < n) (h3 : 3 ≤ p) (ht : p < 3 + h * (w + 1)) (hm : (p - 3) % (w + 1) = 0) : ff o σ i n h w (f + 1) k b p = if cd p = 59 then ff o σ i n h w f k b (p + 1) else some (nI p, σ) := by
  rw [ff_u]
  unfold BX7_firstFault_14
  rw [if_neg (nI_ge hp (by omega)), hR p hp, bi_some, fit_s σ _ h3 (by omega) hh hw, if_pos ht, if_pos hm]
  by_cases e : cd p = 59
  · rw [if_pos e, if_pos e, bi_some, if_neg (show ¬ (1 : Int32) = 0 by decide), if_neg (show ¬ nI p = (1 : Int32) from n12 (d := 1) (by omega) (by omega) (by omega)), if_neg (show ¬ nI p = (2 : Int32) from n12 (d := 2) (by omega) (by omega) (by omega)), e, if_neg (show ¬ (59 : Int32) = 99 by decide), kos_eq, bi_some, if_pos (show kI 59 < 0 by decide), f101 _ _ _ _ _ _ _ (by omega) (by omega), if_pos ⟨hk, hb⟩]; rfl
  · rw [if_neg e, if_neg e, bi_some, if_pos rfl]
theorem ff_sig (hR : RdX o σ i n cd) (hn : n ≤ 60) (hh : h < 10) (hw : w < 10) (f : Nat) {k b : Nat} (hk : k ≤ 4) (hb : b ≤ 6) {p : Nat} (hp : p < n) (h3 : 3 ≤ p) (ht : p < 3 + h * (w + 1)) (hm : ¬ (p - 3) % (w + 1) = 0) : ff o σ i n h w (f + 1) k b p = if okS (cd p) = true ∧ ¬ (gN (cd p) = 3 ∧ k = 4) ∧ ¬ (isB (cd p) = true ∧ b = 6) then ff o σ i n h w f (k + if gN (cd p) = 3 then 1 else 0) (b + if isB (cd p) = true then 1 else 0) (p + 1) else some (nI p, σ) := by
  rw [ff_u]
  unfold BX7_firstFault_14
  rw [if_neg (nI_ge hp (by omega)), hR p hp, bi_some, fit_s σ _ h3 (by omega) hh hw, if_pos ht, if_neg hm]
  by_cases e : okS (cd p) = true
  · rw [if_pos e, bi_some, if_neg (show ¬ (1 : Int32) = 0 by decide), if_neg (show ¬ nI p = (1 : Int32) from n12 (d := 1) (by omega) (by omega) (by omega)), if_neg (show ¬ nI p = (2 : Int32) from n12 (d := 2) (by omega) (by omega) (by omega))]
    by_cases e9 : cd p = 99
    · have g3 := (g3_iff (cd p)).mpr e9
      have hB : isB (cd p) = false := by rw [e9]; decide
      rw [if_pos e9, nm_eq, nI_1, f101 _ _ _ _ _ _ _ (by omega) (by omega)]
      simp only [g3, hB, e, true_and]
      by_cases k4 : k = 4
      · rw [if_neg (by omega), if_neg (by simp [k4])]
      · rw [if_pos (by omega), if_pos (by simp [k4])]
        rfl
    · have g3 : ¬ gN (cd p) = 3 := fun q => e9 ((g3_iff (cd p)).mp q)
      rw [if_neg e9, kos_eq, bi_some]
      cases hB : isB (cd p)
      · rw [kI_f hB, if_pos (show (-1 : Int32) < 0 by decide), f101 _ _ _ _ _ _ _ (by omega) (by omega), if_pos ⟨hk, hb⟩, if_pos ⟨e, fun q => g3 q.1, fun q => by cases q.1⟩, if_neg g3]
        rfl
      · rw [if_neg (kI_t hB).2, nm_eq, nI_1, f101 _ _ _ _ _ _ _ (by omega) (by omega)]
        by_cases b6 : b = 6
        · rw [if_neg (by omega), if_neg (fun q => q.2.2 ⟨rfl, b6⟩)]
        · rw [if_pos (by omega), if_pos ⟨e, fun q => g3 q.1, fun q => b6 q.2⟩, if_neg g3]
          rfl
  · rw [if_neg e, bi_some, if_pos rfl, if_neg (fun q => e q.1)]
end FF
def rdA (τ : Mem) (c k p g : Nat) : Mem := setI (setI (setI τ 5 c (nI g)) 0 11 (nI (k + if g = 3 then 1 else 0))) 0 9 (nI (p + 1))
def rdB (τ : Mem) (c k b p g kn : Nat) : Mem := setI (setI (setI (setI (setI (setI τ 5 c (nI g)) 0 11 (nI (k + if g = 3 then 1 else 0))) 6 b (nI kn)) 7 b (nI c)) 0 10 (nI (b + 1))) 0 9 (nI (p + 1))

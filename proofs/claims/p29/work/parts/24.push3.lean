/-! ===== push, would, tracks: the calls ===== -/
def T0 : Nat → Bool := fun _ => false
theorem t0_ok (Y : Yd) : TOk Y T0 := fun i h => by cases h
theorem x_T0 {A : As} {σ : Mem} (h : RX A σ) (i : Nat) : bit64 (σ.2 2 5) i = T0 i := by
  rw [show σ.2 2 5 = 0 from h.2.2.2.2.2.1.1, w_0]; rfl
theorem m_T0 {A : As} {τ : Mem} (h : RM A τ) (i : Nat) : bit64 (τ.2 0 17) i = T0 i := by
  rw [show τ.2 0 17 = 0 from h.2.2.2.2.2.1, w_0]; rfl
abbrev psh (A : As) (k d : Nat) : PR := pushD (aY A) T0 (aD A) k d
/-- a push that may be: the class's side -/
theorem rop_ok {A : As} {σ : Mem} (hA : WA A) (hX : RX A σ) {k d : Nat} (hk : k < db (aY A)) (hd : d < 4) : ∃ σ', FX8_refusalOfPush σ (nI k) (nI d) = some (if anyT (aY A) (psh A k d).2.1 then 0 else -3, σ') ∧ RX A σ' ∧ EncX (aY A) (psh A k d).1 (σ'.2 2 6) ∧ ∀ i, bit64 (σ'.2 2 7) i = (psh A k d).2.1 i := by
  have h6 := hA.1.2.1
  obtain ⟨σ', e1, e2, e3⟩ := goes_x hA.1 (t0_ok _) hA.2.1 hX.1 hX.2.2.2.2.2.1.2 (x_T0 hX) hX.2.1 hk hd
  refine ⟨σ', ?_, rx_fr hX (frx_go e2) e2.2.2.2.1 (by rw [e2.2.2.1]; exact hX.2.2.2.2.2.1.1), e2.2.2.2.2.1, e2.2.2.2.2.2.1⟩
  unfold FX8_refusalOfPush
  rw [hab_eq hX.1.2.2.1 h6, if_pos (by rw [nI_toInt (by omega)]; omega), bi_some, if_neg (show ¬ (1 : Int32) = 0 by decide), if_neg (nI_pos (by omega)), if_pos (show nI d < (4 : Int32) from nI_lt (b := 4) hd (by decide)), e1, bi_some]
  by_cases q : anyT (aY A) (psh A k d).2.1 = true
  · rw [if_pos q, if_pos q, if_neg (show ¬ (1 : Int32) = 0 by decide)]
  · rw [if_neg q, if_neg q, if_pos rfl]
theorem rop_1 {A : As} {σ : Mem} (hA : WA A) (hX : RX A σ) {a d : Int32} (hk : ¬ (0 ≤ a.toInt ∧ a.toInt < db (aY A))) : FX8_refusalOfPush σ a d = some (-1, σ) := by
  unfold FX8_refusalOfPush
  rw [hab_eq hX.1.2.2.1 hA.1.2.1, if_neg hk, bi_some, if_pos rfl]
theorem rop_2 {A : As} {σ : Mem} (hA : WA A) (hX : RX A σ) {a d : Int32} (hk : 0 ≤ a.toInt ∧ a.toInt < db (aY A)) (hd : ¬ (0 ≤ d.toInt ∧ d.toInt < 4)) : FX8_refusalOfPush σ a d = some (-2, σ) := by
  unfold FX8_refusalOfPush
  rw [hab_eq hX.1.2.2.1 hA.1.2.1, if_pos hk, bi_some, if_neg (show ¬ (1 : Int32) = 0 by decide)]
  by_cases h1 : d < 0
  · rw [if_pos h1]
  · rw [if_neg h1, if_neg (by rw [toInt_lt] at h1 ⊢; change ¬ d.toInt < 0 at h1; show ¬ d.toInt < 4; omega)]
/-- the reference's memory behind a push tried -/
theorem sl_rm {A : As} {τ τ' : Mem} (hM : RM A τ) {r : PR} (h : SlM (aY A) r (heldM τ 0) τ') : FrM τ τ' ∧ τ'.2 0 17 = 0 ∧ Held (aY A) (aD A) 0 τ' := by
  refine ⟨frm_trans (held_fr τ 0) (frm_sl h), ?_, sl_held h (held_ok hM.2.1)⟩
  rw [h.2.2.2.1 17 (by decide) (by decide)]
  exact hM.2.2.2.2.2.1
theorem wd_self (A : As) : wD A (aD A) (aN A) = A := rfl
/-- given back, all is as before -/
theorem rm_given {A : As} {τ τ' : Mem} (hM : RM A τ) (hf : FrM τ τ') (h17 : τ'.2 0 17 = 0) (hh : Held (aY A) (aD A) 0 τ') : RM A (givenM τ' 0) := by
  have := rm_fr hM (frm_trans hf (given_fr τ' 0)) (given_enc hh) h17
  rw [wd_self] at this
  exact this
theorem rm_same {A : As} {τ τ' : Mem} (hM : RM A τ) (hf : FrM τ τ') (h17 : τ'.2 0 17 = 0) (hE : EncM (aY A) (aD A) (τ'.1 4) (τ'.2 0 8)) : RM A τ' := by
  have := rm_fr hM hf hE h17
  rw [wd_self] at this
  exact this
theorem psh_none {A : As} (hA : WA A) {k d : Nat} (hk : k < db (aY A)) (h : ¬ anyT (aY A) (psh A k d).2.1 = true) : (psh A k d).1 = aD A :=
  pu_none hA.1 hA.2.1 hk (by revert h; cases anyT (aY A) (psh A k d).2.1 <;> simp)

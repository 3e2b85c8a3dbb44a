/-! ===== yard; the start ===== -/
theorem rm_R {A : As} {τ τ' : Mem} (h : RM A τ) (hF : FrR τ τ') : RM A τ' := by
  have s : ∀ q, q ≠ 9 → q ≠ 10 → q ≠ 11 → q ≠ 15 → q ≠ 16 → τ'.1 0 q = τ.1 0 q := hF.2.1
  have o : ∀ o, o ≠ 0 → o ≠ 5 → o ≠ 6 → o ≠ 7 → τ'.1 o = τ.1 o := hF.1
  refine ⟨?_, ?_, ?_, ?_, fun k hk => ?_, ?_, ?_, ?_⟩
  · show MS' (aY A) τ'
    unfold MS'
    rw [o 1 (by decide) (by decide) (by decide) (by decide), o 2 (by decide) (by decide) (by decide) (by decide), o 3 (by decide) (by decide) (by decide) (by decide), s 1 (by decide) (by decide) (by decide) (by decide) (by decide), s 2 (by decide) (by decide) (by decide) (by decide) (by decide), s 3 (by decide) (by decide) (by decide) (by decide) (by decide)]
    exact h.1
  · show EncM (aY A) (aD A) (τ'.1 4) (τ'.2 0 8)
    rw [o 4 (by decide) (by decide) (by decide) (by decide), hF.2.2]; exact h.2.1
  · show MH (aY A) (aN A) (aH A) τ'
    unfold MH
    rw [s 22 (by decide) (by decide) (by decide) (by decide) (by decide), o 10 (by decide) (by decide) (by decide) (by decide), hF.2.2]; exact h.2.2.1
  · show MI' (aY A) (aI A) τ'
    unfold MI'
    rw [o 12 (by decide) (by decide) (by decide) (by decide), o 13 (by decide) (by decide) (by decide) (by decide), hF.2.2]; exact h.2.2.2.1
  · have hold := h.2.2.2.2.1 k hk
    unfold shM at hold ⊢
    rw [o 28 (by decide) (by decide) (by decide) (by decide), o 29 (by decide) (by decide) (by decide) (by decide), o 30 (by decide) (by decide) (by decide) (by decide)]
    exact hold
  · rw [hF.2.2]; exact h.2.2.2.2.2.1
  · rw [s 51 (by decide) (by decide) (by decide) (by decide) (by decide)]; exact h.2.2.2.2.2.2.1
  · rw [s 0 (by decide) (by decide) (by decide) (by decide) (by decide)]; exact h.2.2.2.2.2.2.2
theorem wa_Y {A : As} (h : WA A) {Y : Yd} (hY : WFY Y) : WA (wY A Y) :=
  ⟨hY, fun k hk => Or.inl (hY.2.2.2.2 k hk).2, Nat.zero_le _, fun q hq => absurd hq (Nat.not_lt_zero q), fun i D _ hD => (by cases hD), h.2.2.2.2.2⟩
theorem y50 (σ : Mem) (i n : Int32) (o : Nat) {x : Int32} (hx : ¬ x = 0) : FX8_yard_50 σ i n o x = some (-10 - x, setI σ 0 12 x) := by
  unfold FX8_yard_50 FX8_yard_69
  rw [if_neg hx, if_neg hx, fy_eq, bi_some]
/-! the start -/
def Y00 : Yd := (0, 0, 0, fun _ => 0, fun _ => 0, fun _ => 0)
def D00 : Dy := (fun _ => 0, fun _ => false)
def A00 : As := (Y00, D00, 0, fun _ => D00, fun _ => none, fun _ => none, 0, 0)

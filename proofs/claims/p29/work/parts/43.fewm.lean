/-! ===== fewest: the reference's search ===== -/
def BfM (Y : Yd) (S : BS) (τ : Mem) : Prop := τ.1 0 32 = nI S.1 ∧ (∀ i, i < S.1 → τ.2 15 i = lN (codeN Y (S.2 i).1)) ∧ (∀ i, 0 < i → i < S.1 → τ.1 16 i = nI (S.2 i).2.1 ∧ τ.1 17 i = nI (S.2 i).2.2) ∧ (0 < S.1 → τ.1 16 0 = -9) ∧ TB (τ.1 18) S.1 (fun i => codeN Y (S.2 i).1 % 4093)
theorem bfm_cong {Y : Yd} {S : BS} {τ τ' : Mem} (h : BfM Y S τ) (h0 : τ'.1 0 32 = τ.1 0 32) (h1 : ∀ o, 16 ≤ o → o ≤ 18 → τ'.1 o = τ.1 o) (h2 : τ'.2 15 = τ.2 15) : BfM Y S τ' := by
  unfold BfM
  rw [h0, h1 16 (by omega) (by omega), h1 17 (by omega) (by omega), h1 18 (by omega) (by omega), h2]
  exact h
/-- what the search keeps -/
def SeM (Y : Yd) (D0 : Dy) (τ0 τ : Mem) : Prop := InM Y T0 τ0 τ ∧ Held Y D0 4 τ
theorem sem_cong {Y : Yd} {D0 : Dy} {τ0 τ τ' : Mem} (h : SeM Y D0 τ0 τ) (h1 : ∀ o, o ≠ 0 → o ≠ 4 → ¬ (16 ≤ o ∧ o ≤ 19) → τ'.1 o = τ.1 o) (h0 : ∀ q, ¬ (32 ≤ q ∧ q ≤ 34) → τ'.1 0 q = τ.1 0 q) (h2 : ∀ o, o ≠ 0 → o ≠ 15 → τ'.2 o = τ.2 o) (h3 : τ'.2 0 17 = τ.2 0 17) : SeM Y D0 τ0 τ' := by
  have hf : FrM τ τ' := ⟨fun o ho => h1 o (by omega) (by omega) (by omega), fun q hq => h0 q (by omega), fun o ho => h2 o (by omega) (by omega)⟩
  refine ⟨⟨frm_ms hf h.1.1, fun i => by rw [h3]; exact h.1.2.1 i, frm_trans h.1.2.2 hf⟩, ?_⟩
  unfold Held
  rw [h1 8 (by decide) (by decide) (by decide), h2 9 (by decide) (by decide)]
  exact h.2
/-- what the search answers, by its code -/
def cdI (c : Nat) : Int32 := if c = 0 then 0 else if c = 1 then 1 else -1

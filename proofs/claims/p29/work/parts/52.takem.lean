/-- what the second laying leaves -/
def Y191 (b i : Nat) (τ τ' : Mem) : Prop := (∀ o, o ≠ 0 → o ≠ 2 → o ≠ 3 → o ≠ 4 → τ'.1 o = τ.1 o) ∧ (∀ q, q ≠ 22 → τ'.1 0 q = τ.1 0 q) ∧ τ'.1 0 22 = 0 ∧ (∀ o, o ≠ 0 → τ'.2 o = τ.2 o) ∧ τ'.2 0 8 = 0 ∧ τ'.2 0 17 = 0 ∧
  (∀ j, i ≤ j → j < 6 → τ'.1 2 j = τ.1 6 j ∧ τ'.1 3 j = τ.1 7 j ∧ τ'.1 4 j = if j < b then τ.1 7 j else -6) ∧ ∀ j, j < i → τ'.1 2 j = τ.1 2 j ∧ τ'.1 3 j = τ.1 3 j ∧ τ'.1 4 j = τ.1 4 j

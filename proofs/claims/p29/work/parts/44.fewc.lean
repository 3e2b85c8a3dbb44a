/-- every push of a row that is found is one -/
theorem rev_lt {Y : Yd} {S : BS} (hS : WfS Y S) : ∀ (f i p : Nat), i < S.1 → p < 4 * db Y → ∀ j, j < (revP S.2 f i p).length → (revP S.2 f i p).getD j 0 < 4 * db Y := by
  intro f
  induction f with
  | zero =>
    intro i p hi hp j hj
    have : j = 0 := by have : j < 1 := hj; omega
    subst this
    exact hp
  | succ f ih =>
    intro i p hi hp j hj
    by_cases h0 : i = 0
    · subst h0
      rw [show revP S.2 (f + 1) 0 p = [p] by unfold revP; rw [if_pos rfl]] at hj ⊢
      have : j = 0 := by have : j < 1 := hj; omega
      subst this
      exact hp
    · have hw := (hS.2 i hi).2 (by omega)
      have hR : revP S.2 (f + 1) i p = p :: revP S.2 f (S.2 i).2.1 (S.2 i).2.2 := by
        show (if i = 0 then [p] else p :: revP S.2 f (S.2 i).2.1 (S.2 i).2.2) = _
        rw [if_neg h0]
      rw [hR] at hj ⊢
      cases j with
      | zero => exact hp
      | succ j =>
        rw [List.length_cons] at hj
        have := ih (S.2 i).2.1 (S.2 i).2.2 (by omega) hw.2 j (by omega)
        simpa using this
theorem spr_lt {Y : Yd} {g i : Nat} : ∀ (m p : Nat) (S : BS), p + m = 4 * db Y → (spr Y g i p m S).1 = 1 → (spr Y g i p m S).2.2 < 4 * db Y := by
  intro m
  induction m with
  | zero => intro p S _ h; exact absurd (show (0 : Nat) = 1 from h) (by decide)
  | succ m ih =>
    intro p S hp h
    cases hg : gsF Y (S.2 i).1 p
    · rw [spr_no hg] at h ⊢
      exact ih (p + 1) S (by omega) h
    · by_cases e : hgt (pp Y T0 (S.2 i).1 p) = some g
      · rw [spr_fnd hg e]
        show p < _
        omega
      · cases ha : addS Y S (pp Y T0 (S.2 i).1 p).1 i p with
        | none => rw [spr_ful hg e ha] at h; exact absurd (show (2 : Nat) = 1 from h) (by decide)
        | some S' =>
          rw [spr_add hg e ha] at h ⊢
          exact ih (p + 1) S' (by omega) h
theorem bfs_lt {Y : Yd} {g : Nat} : ∀ (m i : Nat) (S : BS), (bfs Y g m i S).1 = 1 → (bfs Y g m i S).2.2.2 < 4 * db Y := by
  intro m
  induction m with
  | zero => intro i S h; exact absurd (show (0 : Nat) = 1 from h) (by decide)
  | succ m ih =>
    intro i S h
    unfold bfs at h ⊢
    by_cases h0 : S.1 ≤ i
    · rw [if_pos h0] at h; exact absurd (show (0 : Nat) = 1 from h) (by decide)
    · rw [if_neg h0] at h ⊢
      by_cases h1 : (spr Y g i 0 (4 * db Y) S).1 = 0
      · rw [if_pos h1] at h ⊢
        exact ih (i + 1) _ h
      · rw [if_neg h1] at h ⊢
        exact spr_lt (4 * db Y) 0 S (Nat.zero_add _) h

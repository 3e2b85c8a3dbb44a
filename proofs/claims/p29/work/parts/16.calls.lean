/-! ===== at, ofBlock, thaw ===== -/
theorem has_t {σ : Mem} (y : Int64) {n : Nat} (hn : n < 64) (h : bit64 y n = true) : FX8_has σ y (nI n) = some (1, σ) := by rw [has_eq σ y hn, h]; rfl
theorem has_f {σ : Mem} (y : Int64) {n : Nat} (hn : n < 64) (h : bit64 y n = false) : FX8_has σ y (nI n) = some (0, σ) := by rw [has_eq σ y hn, h]; rfl
def blkN (D : Dy) (c : Nat) : Nat → Nat → Option Nat
  | _, 0 => none
  | i, m + 1 => if D.1 i = c then some i else blkN D c (i + 1) m
/-- the block that lies in a cell -/
def blkD (Y : Yd) (D : Dy) (c : Nat) : Option Nat := blkN D c 0 (db Y)
def blkI (o : Option Nat) : Int32 := match o with
  | none => -9
  | some k => nI k
/-- what a cell is; T: sand on trial -/
def whatD (Y : Yd) (T : Nat → Bool) (D : Dy) (c : Nat) : Nat := if T c then 2 else if dg Y c = 3 ∧ D.2 c = true then 0 else dg Y c
theorem blkN_some {D : Dy} {c : Nat} : ∀ {m i k : Nat}, blkN D c i m = some k → i ≤ k ∧ k < i + m ∧ D.1 k = c := by
  intro m
  induction m with
  | zero => intro i k h; exact absurd h (by simp [blkN])
  | succ m ih =>
    intro i k h
    unfold blkN at h
    by_cases e : D.1 i = c
    · rw [if_pos e] at h; cases h; exact ⟨Nat.le_refl _, by omega, e⟩
    · rw [if_neg e] at h; have := ih h; exact ⟨by omega, by omega, this.2.2⟩
theorem blkN_none {D : Dy} {c : Nat} : ∀ {m i : Nat}, blkN D c i m = none → ∀ k, i ≤ k → k < i + m → D.1 k ≠ c := by
  intro m
  induction m with
  | zero => intro i _ k h1 h2; omega
  | succ m ih =>
    intro i h k h1 h2
    unfold blkN at h
    by_cases e : D.1 i = c
    · rw [if_pos e] at h; cases h
    · rw [if_neg e] at h
      by_cases e2 : k = i
      · rw [e2]; exact e
      · exact ih h k (by omega) (by omega)
theorem blkN_cong {D D' : Dy} {c : Nat} : ∀ {m i : Nat}, (∀ k, i ≤ k → k < i + m → (D.1 k = c ↔ D'.1 k = c)) → blkN D c i m = blkN D' c i m := by
  intro m
  induction m with
  | zero => intro i _; rfl
  | succ m ih =>
    intro i h
    unfold blkN
    by_cases e : D.1 i = c
    · rw [if_pos e, if_pos ((h i (Nat.le_refl _) (by omega)).mp e)]
    · rw [if_neg e, if_neg (fun q => e ((h i (Nat.le_refl _) (by omega)).mpr q))]
      exact ih fun k h1 h2 => h k (by omega) (by omega)
theorem blkD_lt {Y : Yd} {D : Dy} {c k : Nat} (h : blkD Y D c = some k) : k < db Y ∧ D.1 k = c := by
  have := blkN_some h
  exact ⟨by omega, this.2.2⟩
theorem blkD_none {Y : Yd} {D : Dy} {c : Nat} (h : blkD Y D c = none) {k : Nat} (hk : k < db Y) : D.1 k ≠ c := blkN_none h k (Nat.zero_le _) (by omega)
theorem lie_eq {p c : Nat} (hp : p < 39) (hc : c < 36) : lieI p = nI c ↔ p = c :=
  (by decide +kernel : ∀ p, p < 39 → ∀ c, c < 36 → (lieI p = nI c ↔ p = c)) p hp c hc
theorem lie_neg {p : Nat} (hp : p < 39) : (lieI p < 0 ↔ 36 ≤ p) ∧ (0 ≤ lieI p ↔ p < 36) :=
  (by decide +kernel : ∀ p, p < 39 → (lieI p < 0 ↔ 36 ≤ p) ∧ (0 ≤ lieI p ↔ p < 36)) p hp
theorem lie_in {p : Nat} (hp : p < 36) : lieI p = nI p := by unfold lieI; rw [if_pos hp]
theorem plM_in {Y : Yd} {D : Dy} {k : Nat} (hk : k < db Y) : plM Y D k = lieI (D.1 k) := by unfold plM; rw [if_pos hk]
theorem rm_l {A : As} {τ : Mem} (h : RM A τ) (h6 : db (aY A) ≤ 6) : ∀ k, k < db (aY A) → τ.1 4 k = lieI ((aD A).1 k) := fun k hk => by
  rw [h.2.1.1 k (by omega), plM_in hk]

/-! ===== keep, back, undo ===== -/
def wI (A : As) (im : Nat → Option Dy) : As := (A.1, A.2.1, A.2.2.1, A.2.2.2.1, im, A.2.2.2.2.2.1, A.2.2.2.2.2.2.1, A.2.2.2.2.2.2.2)
def wD (A : As) (D : Dy) (n : Nat) : As := (A.1, D, n, A.2.2.2.1, A.2.2.2.2.1, A.2.2.2.2.2.1, A.2.2.2.2.2.2.1, A.2.2.2.2.2.2.2)
def wP (A : As) (D : Dy) (n : Nat) (h : Nat → Dy) : As := (A.1, D, n, h, A.2.2.2.2.1, A.2.2.2.2.2.1, A.2.2.2.2.2.2.1, A.2.2.2.2.2.2.2)
theorem n6 (k i : Nat) : ((6 : Int32) * nI k) + nI i = nI (6 * k + i) := by
  rw [show (6 : Int32) = nI 6 from rfl, pk_mul, nI_add]
theorem stL_in {R : Type} {σ : Mem} {o n j : Nat} (h : j < n) (hn : n < 2 ^ 31) (v : Int64) (f : Mem → Option R) : stL σ o n (nI j) v f = f (setL σ o j v) := by
  unfold stL
  rw [rd_in h hn]
theorem stZ_in {R : Type} {σ : Mem} {o n j : Nat} (h : j < n) (hn : n < 2 ^ 31) (v : Int32) (f : Mem → Option R) : stZ σ o n (nI j) v f = f (setI σ o j (vp_nar .boolean v)) := by
  unfold stZ
  rw [rd_in h hn]
theorem nar0 : vp_nar .boolean 0 = 0 := by decide +kernel
theorem nar1 : vp_nar .boolean 1 = 1 := by decide +kernel
theorem encX_ne {Y : Yd} {D : Dy} {y : Int64} (hc : (crs Y).length ≤ 4) (h : EncX Y D y) : y ≠ -1 := by
  intro e
  have h1 := h.2.2.2 63 (by omega)
  rw [e] at h1
  exact absurd h1 (by decide)
theorem cel_eq {Y : Yd} {σ : Mem} (h : XS Y σ) : FX1_cells σ = some (nI (dn Y), σ) := by
  unfold FX1_cells
  rw [h.1, h.2.1, pk_mul]
  rfl
theorem dn_le {Y : Yd} (h : WFY Y) : dn Y ≤ 36 := by
  rcases h.1 with ⟨a, b, c⟩ | ⟨a, b, c, d⟩
  · show dh Y * dw Y ≤ 36
    rw [a]; omega
  · show dh Y * dw Y ≤ 36
    exact Nat.mul_le_mul b d
theorem dn_0 {Y : Yd} (h : WFY Y) : dn Y = 0 ↔ dh Y = 0 := by
  rcases h.1 with ⟨a, b, c⟩ | ⟨a, b, c, d⟩
  · show dh Y * dw Y = 0 ↔ _
    rw [a]; omega
  · have := Nat.mul_le_mul a c
    show dh Y * dw Y = 0 ↔ _
    omega
/-- the yard behind j pushes taken back -/
def undoD (A : As) (j : Nat) : Dy := if j = 0 then aD A else aH A (aN A - j)

/-! ===== games: the reference's levels run to their end ===== -/
theorem anyF_s (f : Nat → Bool) (p m : Nat) : anyF f p (m + 1) = (f p || anyF f (p + 1) m) := rfl
theorem bv_rz {R : Type} (X : Option Mem) (g : Int32 → Mem → Option R) : bi (bv X fun s => rz 1 s) g = bv X (fun s => g 1 s) := by
  cases X <;> rfl
theorem lrn_same {σ : Mem} {l : Nat} {w : Bool} (h : w ≠ own l) : lrn σ l w = σ := by unfold lrn; rw [if_neg h]
/-- what a level comes to from its p-th push on -/
def nodV (Y : Yd) (boy r : Nat) (o had : Bool) (D : Dy) (p m : Nat) : Bool := if o then anyF (wpF Y boy r D) p m else ((had || anyF (gsF Y D) p m) && !anyF (wwF Y boy r D) p m)

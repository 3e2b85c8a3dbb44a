/-! ===== rows: the reference's loops; the call ===== -/
theorem rd0 {R : Type} {n : Nat} (h : 0 < n) (hn : n < 2 ^ 31) (f : Nat → Option R) : rd (0 : Int32) n f = f 0 := rd_in (j := 0) h hn f
theorem stL0 {R : Type} {σ : Mem} {o n : Nat} (h : 0 < n) (hn : n < 2 ^ 31) (v : Int64) (f : Mem → Option R) : stL σ o n (0 : Int32) v f = f (setL σ o 0 v) := stL_in (j := 0) h hn v f
def rowsA (B n : Nat) (L : List Nat) (q : Int32) : Int32 := if q = -1 then nI L.length else match L.head? with
  | none => -9
  | some z => nI (num (dgt B n z q.toInt.toNat))

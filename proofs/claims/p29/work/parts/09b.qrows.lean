/-! ===== THE ROWS OF JQ: an instruction each ===== -/
section QQ
variable {Y : QX} {M : MQD} {s : Option Mem} {io : List Nat} {B : List AE} {n pc q : Nat} {lv : (Nat → Nat) → List (Nat × Value)} {st : (Nat → Nat) → List Value} {R : Type} {out : R}
theorem q_iconst {i : Int} {v : Int32} (d : decode M.1 pc = .ok (.iconst i, 1)) (hq : pc + 1 = q) (hv : Int32.ofInt i = v) (k : JQ Y M s io B n q lv (fun b => .int v :: st b)) : JQ Y M s io B n pc lv st := by
  subst hq
  intro hO hn b hio H locs ls hP hD hS hl
  exact lv_iconst hO.1 hO.2.1 d hv (k hO hn b hio H locs ls hP hD hS hl)
theorem q_bipush {i : Int} {v : Int32} (d : decode M.1 pc = .ok (.bipush i, 2)) (hq : pc + 2 = q) (hv : (Int8.ofInt i).toInt32 = v) (k : JQ Y M s io B n q lv (fun b => .int v :: st b)) : JQ Y M s io B n pc lv st := by
  subst hq
  intro hO hn b hio H locs ls hP hD hS hl
  exact lv_bipush hO.1 hO.2.1 d hv (k hO hn b hio H locs ls hP hD hS hl)
theorem q_sipush {i : Int} {v : Int32} (d : decode M.1 pc = .ok (.sipush i, 3)) (hq : pc + 3 = q) (hv : (Int16.ofInt i).toInt32 = v) (k : JQ Y M s io B n q lv (fun b => .int v :: st b)) : JQ Y M s io B n pc lv st := by
  subst hq
  intro hO hn b hio H locs ls hP hD hS hl
  exact lv_sipush hO.1 hO.2.1 d hv (k hO hn b hio H locs ls hP hD hS hl)
theorem q_lconst {i : Fin 2} {v : Int64} (d : decode M.1 pc = .ok (.lconst i, 1)) (hq : pc + 1 = q) (hv : Int64.ofNat (i : Nat) = v) (k : JQ Y M s io B n q lv (fun b => .long v :: st b)) : JQ Y M s io B n pc lv st := by
  subst hq
  intro hO hn b hio H locs ls hP hD hS hl
  exact lv_lconst hO.1 hO.2.1 d hv (k hO hn b hio H locs ls hP hD hS hl)
theorem q_ldc {i : Nat} {v : Int32} (d : decode M.1 pc = .ok (.ldc i, 2)) (hq : pc + 2 = q) (hw : Jvm.Cond.constant RL i v ∈ BW) (k : JQ Y M s io B n q lv (fun b => .int v :: st b)) : JQ Y M s io B n pc lv st := by
  subst hq
  intro hO hn b hio H locs ls hP hD hS hl
  exact lv_ldc hO.1 hO.2.1 hO.2.2.2.2.1 (hO.2.2.2.2.2.1 _ hw) d (k hO hn b hio H locs ls hP hD hS hl)
theorem q_ldc2 {i : Nat} {v : Int64} (d : decode M.1 pc = .ok (.ldc2_w i, 3)) (hq : pc + 3 = q) (hw : Jvm.Cond.constantLong RL i v ∈ BW) (k : JQ Y M s io B n q lv (fun b => .long v :: st b)) : JQ Y M s io B n pc lv st := by
  subst hq
  intro hO hn b hio H locs ls hP hD hS hl
  exact lv_ldc2 hO.1 hO.2.1 hO.2.2.2.2.1 (hO.2.2.2.2.2.1 _ hw) d (k hO hn b hio H locs ls hP hD hS hl)
theorem q_iload_n (j : Nat) {f : Fin 4} {i : Nat} {x : Int32} (d : decode M.1 pc = .ok (.iload_n f, 1)) (hq : pc + 1 = q) (hi : (f : Nat) = i) (hj : ∀ b, (lv b)[j]? = some (i, .int x)) (k : JQ Y M s io B n q lv (fun b => .int x :: st b)) : JQ Y M s io B n pc lv st := by
  subst hq
  intro hO hn b hio H locs ls hP hD hS hl
  exact lv_iload_n hO.1 hO.2.1 d hi (lv_at hl j (hj b)) (k hO hn b hio H locs ls hP hD hS hl)
theorem q_iload (j : Nat) {i : Nat} {x : Int32} (d : decode M.1 pc = .ok (.iload i, 2)) (hq : pc + 2 = q) (hj : ∀ b, (lv b)[j]? = some (i, .int x)) (k : JQ Y M s io B n q lv (fun b => .int x :: st b)) : JQ Y M s io B n pc lv st := by
  subst hq
  intro hO hn b hio H locs ls hP hD hS hl
  exact lv_iload hO.1 hO.2.1 d (lv_at hl j (hj b)) (k hO hn b hio H locs ls hP hD hS hl)
theorem q_lload_n (j : Nat) {f : Fin 4} {i : Nat} {x : Int64} (d : decode M.1 pc = .ok (.lload_n f, 1)) (hq : pc + 1 = q) (hi : (f : Nat) = i) (hj : ∀ b, (lv b)[j]? = some (i, .long x)) (k : JQ Y M s io B n q lv (fun b => .long x :: st b)) : JQ Y M s io B n pc lv st := by
  subst hq
  intro hO hn b hio H locs ls hP hD hS hl
  exact lv_lload_n hO.1 hO.2.1 d hi (lv_at hl j (hj b)) (k hO hn b hio H locs ls hP hD hS hl)
theorem q_lload (j : Nat) {i : Nat} {x : Int64} (d : decode M.1 pc = .ok (.lload i, 2)) (hq : pc + 2 = q) (hj : ∀ b, (lv b)[j]? = some (i, .long x)) (k : JQ Y M s io B n q lv (fun b => .long x :: st b)) : JQ Y M s io B n pc lv st := by
  subst hq
  intro hO hn b hio H locs ls hP hD hS hl
  exact lv_lload hO.1 hO.2.1 d (lv_at hl j (hj b)) (k hO hn b hio H locs ls hP hD hS hl)
theorem q_aload_n (j : Nat) (x : (Nat → Nat) → Nat) {f : Fin 4} {i : Nat} (d : decode M.1 pc = .ok (.aload_n f, 1)) (hq : pc + 1 = q) (hi : (f : Nat) = i) (hj : ∀ b, (lv b)[j]? = some (i, .ref (x b))) (k : JQ Y M s io B n q lv (fun b => .ref (x b) :: st b)) : JQ Y M s io B n pc lv st := by
  subst hq
  intro hO hn b hio H locs ls hP hD hS hl
  exact lv_aload_n hO.1 hO.2.1 d hi (lv_at hl j (hj b)) (k hO hn b hio H locs ls hP hD hS hl)
theorem q_aload (j : Nat) (x : (Nat → Nat) → Nat) {i : Nat} (d : decode M.1 pc = .ok (.aload i, 2)) (hq : pc + 2 = q) (hj : ∀ b, (lv b)[j]? = some (i, .ref (x b))) (k : JQ Y M s io B n q lv (fun b => .ref (x b) :: st b)) : JQ Y M s io B n pc lv st := by
  subst hq
  intro hO hn b hio H locs ls hP hD hS hl
  exact lv_aload hO.1 hO.2.1 d (lv_at hl j (hj b)) (k hO hn b hio H locs ls hP hD hS hl)
theorem q_istore_n (lv2 : Int32 → (Nat → Nat) → List (Nat × Value)) {i : Nat} {f : Fin 4} {x : Int32} {g : Int32 → Option R} (d : decode M.1 pc = .ok (.istore_n f, 1)) (hq : pc + 1 = q) (hi : (f : Nat) = i) (hm : i < M.2.1) (hv : ∀ y b, (i, .int y) :: (lv b).filter (fun q => !(q.1 == i) && !(q.1 + 1 == i && q.2.category == 2)) = lv2 y b) (h : nm x g = some out) (k : ∀ y, g y = some out → JQ Y M s io B n q (lv2 y) st) : JQ Y M s io B n pc lv (fun b => .int x :: st b) := by
  subst hq
  intro hO hn b hio H locs ls hP hD hS hl
  exact lv_istore_n (lv' := lv2 x b) hO.1 hO.2.1 d hi hl hm (hv x b) (fun ls hl => k x h hO hn b hio H locs ls hP hD hS hl)
theorem q_istoreV_n (lv2 : (Nat → Nat) → List (Nat × Value)) {i : Nat} {f : Fin 4} {x : Int32} (d : decode M.1 pc = .ok (.istore_n f, 1)) (hq : pc + 1 = q) (hi : (f : Nat) = i) (hm : i < M.2.1) (hv : ∀ b, (i, .int x) :: (lv b).filter (fun q => !(q.1 == i) && !(q.1 + 1 == i && q.2.category == 2)) = lv2 b) (k : JQ Y M s io B n q lv2 st) : JQ Y M s io B n pc lv (fun b => .int x :: st b) := by
  subst hq
  intro hO hn b hio H locs ls hP hD hS hl
  exact lv_istore_n (lv' := lv2 b) hO.1 hO.2.1 d hi hl hm (hv b) (fun ls hl => k hO hn b hio H locs ls hP hD hS hl)
theorem q_istore (lv2 : Int32 → (Nat → Nat) → List (Nat × Value)) {i : Nat} {x : Int32} {g : Int32 → Option R} (d : decode M.1 pc = .ok (.istore i, 2)) (hq : pc + 2 = q) (hm : i < M.2.1) (hv : ∀ y b, (i, .int y) :: (lv b).filter (fun q => !(q.1 == i) && !(q.1 + 1 == i && q.2.category == 2)) = lv2 y b) (h : nm x g = some out) (k : ∀ y, g y = some out → JQ Y M s io B n q (lv2 y) st) : JQ Y M s io B n pc lv (fun b => .int x :: st b) := by
  subst hq
  intro hO hn b hio H locs ls hP hD hS hl
  exact lv_istore (lv' := lv2 x b) hO.1 hO.2.1 d hl hm (hv x b) (fun ls hl => k x h hO hn b hio H locs ls hP hD hS hl)
theorem q_istoreV (lv2 : (Nat → Nat) → List (Nat × Value)) {i : Nat} {x : Int32} (d : decode M.1 pc = .ok (.istore i, 2)) (hq : pc + 2 = q) (hm : i < M.2.1) (hv : ∀ b, (i, .int x) :: (lv b).filter (fun q => !(q.1 == i) && !(q.1 + 1 == i && q.2.category == 2)) = lv2 b) (k : JQ Y M s io B n q lv2 st) : JQ Y M s io B n pc lv (fun b => .int x :: st b) := by
  subst hq
  intro hO hn b hio H locs ls hP hD hS hl
  exact lv_istore (lv' := lv2 b) hO.1 hO.2.1 d hl hm (hv b) (fun ls hl => k hO hn b hio H locs ls hP hD hS hl)
theorem q_lstore_n (lv2 : Int64 → (Nat → Nat) → List (Nat × Value)) {i : Nat} {f : Fin 4} {x : Int64} {g : Int64 → Option R} (d : decode M.1 pc = .ok (.lstore_n f, 1)) (hq : pc + 1 = q) (hi : (f : Nat) = i) (hm : i + 1 < M.2.1) (hv : ∀ y b, (i, .long y) :: (lv b).filter (fun q => !(q.1 == i) && (!(q.1 == i + 1) && !(q.1 + 1 == i && q.2.category == 2))) = lv2 y b) (h : nm x g = some out) (k : ∀ y, g y = some out → JQ Y M s io B n q (lv2 y) st) : JQ Y M s io B n pc lv (fun b => .long x :: st b) := by
  subst hq
  intro hO hn b hio H locs ls hP hD hS hl
  exact lv_lstore_n (lv' := lv2 x b) hO.1 hO.2.1 d hi hl hm (hv x b) (fun ls hl => k x h hO hn b hio H locs ls hP hD hS hl)
theorem q_lstoreV_n (lv2 : (Nat → Nat) → List (Nat × Value)) {i : Nat} {f : Fin 4} {x : Int64} (d : decode M.1 pc = .ok (.lstore_n f, 1)) (hq : pc + 1 = q) (hi : (f : Nat) = i) (hm : i + 1 < M.2.1) (hv : ∀ b, (i, .long x) :: (lv b).filter (fun q => !(q.1 == i) && (!(q.1 == i + 1) && !(q.1 + 1 == i && q.2.category == 2))) = lv2 b) (k : JQ Y M s io B n q lv2 st) : JQ Y M s io B n pc lv (fun b => .long x :: st b) := by
  subst hq
  intro hO hn b hio H locs ls hP hD hS hl
  exact lv_lstore_n (lv' := lv2 b) hO.1 hO.2.1 d hi hl hm (hv b) (fun ls hl => k hO hn b hio H locs ls hP hD hS hl)
theorem q_lstore (lv2 : Int64 → (Nat → Nat) → List (Nat × Value)) {i : Nat} {x : Int64} {g : Int64 → Option R} (d : decode M.1 pc = .ok (.lstore i, 2)) (hq : pc + 2 = q) (hm : i + 1 < M.2.1) (hv : ∀ y b, (i, .long y) :: (lv b).filter (fun q => !(q.1 == i) && (!(q.1 == i + 1) && !(q.1 + 1 == i && q.2.category == 2))) = lv2 y b) (h : nm x g = some out) (k : ∀ y, g y = some out → JQ Y M s io B n q (lv2 y) st) : JQ Y M s io B n pc lv (fun b => .long x :: st b) := by
  subst hq
  intro hO hn b hio H locs ls hP hD hS hl
  exact lv_lstore (lv' := lv2 x b) hO.1 hO.2.1 d hl hm (hv x b) (fun ls hl => k x h hO hn b hio H locs ls hP hD hS hl)
theorem q_lstoreV (lv2 : (Nat → Nat) → List (Nat × Value)) {i : Nat} {x : Int64} (d : decode M.1 pc = .ok (.lstore i, 2)) (hq : pc + 2 = q) (hm : i + 1 < M.2.1) (hv : ∀ b, (i, .long x) :: (lv b).filter (fun q => !(q.1 == i) && (!(q.1 == i + 1) && !(q.1 + 1 == i && q.2.category == 2))) = lv2 b) (k : JQ Y M s io B n q lv2 st) : JQ Y M s io B n pc lv (fun b => .long x :: st b) := by
  subst hq
  intro hO hn b hio H locs ls hP hD hS hl
  exact lv_lstore (lv' := lv2 b) hO.1 hO.2.1 d hl hm (hv b) (fun ls hl => k hO hn b hio H locs ls hP hD hS hl)
theorem q_astore_n (x : (Nat → Nat) → Nat) (lv2 : (Nat → Nat) → List (Nat × Value)) {i : Nat} {f : Fin 4} (d : decode M.1 pc = .ok (.astore_n f, 1)) (hq : pc + 1 = q) (hi : (f : Nat) = i) (hm : i < M.2.1) (hv : ∀ b, (i, Value.ref (x b)) :: (lv b).filter (fun q => !(q.1 == i) && !(q.1 + 1 == i && q.2.category == 2)) = lv2 b) (k : JQ Y M s io B n q lv2 st) : JQ Y M s io B n pc lv (fun b => .ref (x b) :: st b) := by
  subst hq
  intro hO hn b hio H locs ls hP hD hS hl
  exact lv_astore_n (lv' := lv2 b) hO.1 hO.2.1 d hi hl hm (hv b) (fun ls hl => k hO hn b hio H locs ls hP hD hS hl)
theorem q_astore (x : (Nat → Nat) → Nat) (lv2 : (Nat → Nat) → List (Nat × Value)) {i : Nat} (d : decode M.1 pc = .ok (.astore i, 2)) (hq : pc + 2 = q) (hm : i < M.2.1) (hv : ∀ b, (i, Value.ref (x b)) :: (lv b).filter (fun q => !(q.1 == i) && !(q.1 + 1 == i && q.2.category == 2)) = lv2 b) (k : JQ Y M s io B n q lv2 st) : JQ Y M s io B n pc lv (fun b => .ref (x b) :: st b) := by
  subst hq
  intro hO hn b hio H locs ls hP hD hS hl
  exact lv_astore (lv' := lv2 b) hO.1 hO.2.1 d hl hm (hv b) (fun ls hl => k hO hn b hio H locs ls hP hD hS hl)
theorem q_iinc (j : Nat) (lv2 : Int32 → (Nat → Nat) → List (Nat × Value)) {i : Nat} {m : Int} {c x : Int32} {g : Int32 → Option R} (d : decode M.1 pc = .ok (.iinc i m, 3)) (hq : pc + 3 = q) (hj : ∀ b, (lv b)[j]? = some (i, .int x)) (hc : Int32.ofInt m = c) (hm : i < M.2.1) (hv : ∀ y b, (i, Value.int y) :: (lv b).filter (fun q => !(q.1 == i) && !(q.1 + 1 == i && q.2.category == 2)) = lv2 y b) (h : nm (x + c) g = some out) (k : ∀ y, g y = some out → JQ Y M s io B n q (lv2 y) st) : JQ Y M s io B n pc lv st := by
  subst hq
  intro hO hn b hio H locs ls hP hD hS hl
  exact lv_iinc (v := x + c) (lv' := lv2 (x + c) b) hO.1 hO.2.1 d hl (hj b) (by rw [hc]) hm (hv _ b) (fun ls hl => k _ h hO hn b hio H locs ls hP hD hS hl)
theorem q_iadd {x y : Int32} (d : decode M.1 pc = .ok (.iadd, 1)) (hq : pc + 1 = q) (k : JQ Y M s io B n q lv (fun b => .int (x + y) :: st b)) : JQ Y M s io B n pc lv (fun b => .int y :: .int x :: st b) := by
  subst hq
  intro hO hn b hio H locs ls hP hD hS hl
  exact lv_iadd hO.1 hO.2.1 d (k hO hn b hio H locs ls hP hD hS hl)
theorem q_isub {x y : Int32} (d : decode M.1 pc = .ok (.isub, 1)) (hq : pc + 1 = q) (k : JQ Y M s io B n q lv (fun b => .int (x - y) :: st b)) : JQ Y M s io B n pc lv (fun b => .int y :: .int x :: st b) := by
  subst hq
  intro hO hn b hio H locs ls hP hD hS hl
  exact lv_isub hO.1 hO.2.1 d (k hO hn b hio H locs ls hP hD hS hl)
theorem q_imul {x y : Int32} (d : decode M.1 pc = .ok (.imul, 1)) (hq : pc + 1 = q) (k : JQ Y M s io B n q lv (fun b => .int (x * y) :: st b)) : JQ Y M s io B n pc lv (fun b => .int y :: .int x :: st b) := by
  subst hq
  intro hO hn b hio H locs ls hP hD hS hl
  exact lv_imul hO.1 hO.2.1 d (k hO hn b hio H locs ls hP hD hS hl)
theorem q_iand {x y : Int32} (d : decode M.1 pc = .ok (.iand, 1)) (hq : pc + 1 = q) (k : JQ Y M s io B n q lv (fun b => .int (x &&& y) :: st b)) : JQ Y M s io B n pc lv (fun b => .int y :: .int x :: st b) := by
  subst hq
  intro hO hn b hio H locs ls hP hD hS hl
  exact lv_iand hO.1 hO.2.1 d (k hO hn b hio H locs ls hP hD hS hl)
theorem q_ior {x y : Int32} (d : decode M.1 pc = .ok (.ior, 1)) (hq : pc + 1 = q) (k : JQ Y M s io B n q lv (fun b => .int (x ||| y) :: st b)) : JQ Y M s io B n pc lv (fun b => .int y :: .int x :: st b) := by
  subst hq
  intro hO hn b hio H locs ls hP hD hS hl
  exact lv_ior hO.1 hO.2.1 d (k hO hn b hio H locs ls hP hD hS hl)
theorem q_ishl {x y : Int32} (d : decode M.1 pc = .ok (.ishl, 1)) (hq : pc + 1 = q) (k : JQ Y M s io B n q lv (fun b => .int (x <<< (y &&& 31)) :: st b)) : JQ Y M s io B n pc lv (fun b => .int y :: .int x :: st b) := by
  subst hq
  intro hO hn b hio H locs ls hP hD hS hl
  exact lv_ishl hO.1 hO.2.1 d (k hO hn b hio H locs ls hP hD hS hl)
theorem q_ishr {x y : Int32} (d : decode M.1 pc = .ok (.ishr, 1)) (hq : pc + 1 = q) (k : JQ Y M s io B n q lv (fun b => .int (x >>> (y &&& 31)) :: st b)) : JQ Y M s io B n pc lv (fun b => .int y :: .int x :: st b) := by
  subst hq
  intro hO hn b hio H locs ls hP hD hS hl
  exact lv_ishr hO.1 hO.2.1 d (k hO hn b hio H locs ls hP hD hS hl)
theorem q_ladd {x y : Int64} (d : decode M.1 pc = .ok (.ladd, 1)) (hq : pc + 1 = q) (k : JQ Y M s io B n q lv (fun b => .long (x + y) :: st b)) : JQ Y M s io B n pc lv (fun b => .long y :: .long x :: st b) := by
  subst hq
  intro hO hn b hio H locs ls hP hD hS hl
  exact lv_ladd hO.1 hO.2.1 d (k hO hn b hio H locs ls hP hD hS hl)
theorem q_land {x y : Int64} (d : decode M.1 pc = .ok (.land, 1)) (hq : pc + 1 = q) (k : JQ Y M s io B n q lv (fun b => .long (x &&& y) :: st b)) : JQ Y M s io B n pc lv (fun b => .long y :: .long x :: st b) := by
  subst hq
  intro hO hn b hio H locs ls hP hD hS hl
  exact lv_land hO.1 hO.2.1 d (k hO hn b hio H locs ls hP hD hS hl)
theorem q_lor {x y : Int64} (d : decode M.1 pc = .ok (.lor, 1)) (hq : pc + 1 = q) (k : JQ Y M s io B n q lv (fun b => .long (x ||| y) :: st b)) : JQ Y M s io B n pc lv (fun b => .long y :: .long x :: st b) := by
  subst hq
  intro hO hn b hio H locs ls hP hD hS hl
  exact lv_lor hO.1 hO.2.1 d (k hO hn b hio H locs ls hP hD hS hl)
theorem q_lshl {x : Int64} {y : Int32} (d : decode M.1 pc = .ok (.lshl, 1)) (hq : pc + 1 = q) (k : JQ Y M s io B n q lv (fun b => .long (x <<< (y.toInt64 &&& 63)) :: st b)) : JQ Y M s io B n pc lv (fun b => .int y :: .long x :: st b) := by
  subst hq
  intro hO hn b hio H locs ls hP hD hS hl
  exact lv_lshl hO.1 hO.2.1 d rfl (k hO hn b hio H locs ls hP hD hS hl)
theorem q_lshr {x : Int64} {y : Int32} (d : decode M.1 pc = .ok (.lshr, 1)) (hq : pc + 1 = q) (k : JQ Y M s io B n q lv (fun b => .long (x >>> (y.toInt64 &&& 63)) :: st b)) : JQ Y M s io B n pc lv (fun b => .int y :: .long x :: st b) := by
  subst hq
  intro hO hn b hio H locs ls hP hD hS hl
  exact lv_lshr hO.1 hO.2.1 d rfl (k hO hn b hio H locs ls hP hD hS hl)
theorem q_lcmp {x y : Int64} (d : decode M.1 pc = .ok (.lcmp, 1)) (hq : pc + 1 = q) (k : JQ Y M s io B n q lv (fun b => .int (lg_cmp x y) :: st b)) : JQ Y M s io B n pc lv (fun b => .long y :: .long x :: st b) := by
  subst hq
  intro hO hn b hio H locs ls hP hD hS hl
  exact W.lcmp hO.1 hO.2.1 d (k hO hn b hio H locs ls hP hD hS hl)
theorem q_dup2 {v w : (Nat → Nat) → Value} (d : decode M.1 pc = .ok (.dup2, 1)) (hq : pc + 1 = q) (hc : ∀ b, (v b).category = 1) (hd : ∀ b, (w b).category = 1) (k : JQ Y M s io B n q lv (fun b => v b :: w b :: v b :: w b :: st b)) : JQ Y M s io B n pc lv (fun b => v b :: w b :: st b) := by
  subst hq
  intro hO hn b hio H locs ls hP hD hS hl
  exact lv_dup2_11 hO.1 hO.2.1 d (hc b) (hd b) (k hO hn b hio H locs ls hP hD hS hl)
theorem q_pop {v : (Nat → Nat) → Value} (d : decode M.1 pc = .ok (.pop, 1)) (hq : pc + 1 = q) (hc : ∀ b, (v b).category = 1) (k : JQ Y M s io B n q lv st) : JQ Y M s io B n pc lv (fun b => v b :: st b) := by
  subst hq
  intro hO hn b hio H locs ls hP hD hS hl
  exact lv_pop hO.1 hO.2.1 d (hc b) (k hO hn b hio H locs ls hP hD hS hl)
theorem q_idiv {x y : Int32} {g : Option R} (d : decode M.1 pc = .ok (.idiv, 1)) (hq : pc + 1 = q) (h : dzI y g = some out) (k : g = some out → JQ Y M s io B n q lv (fun b => .int (x / y) :: st b)) : JQ Y M s io B n pc lv (fun b => .int y :: .int x :: st b) := by
  subst hq
  unfold dzI at h
  by_cases hy : y = 0
  · rw [if_pos hy] at h; cases h
  · rw [if_neg hy] at h
    intro hO hn b hio H locs ls hP hD hS hl
    exact lv_idiv hO.1 hO.2.1 d hy (k h hO hn b hio H locs ls hP hD hS hl)
theorem q_irem {x y : Int32} {g : Option R} (d : decode M.1 pc = .ok (.irem, 1)) (hq : pc + 1 = q) (h : dzI y g = some out) (k : g = some out → JQ Y M s io B n q lv (fun b => .int (x - x / y * y) :: st b)) : JQ Y M s io B n pc lv (fun b => .int y :: .int x :: st b) := by
  subst hq
  unfold dzI at h
  by_cases hy : y = 0
  · rw [if_pos hy] at h; cases h
  · rw [if_neg hy] at h
    intro hO hn b hio H locs ls hP hD hS hl
    exact lv_irem hO.1 hO.2.1 d hy (k h hO hn b hio H locs ls hP hD hS hl)
theorem q_if_eq {x : Int32} {off : Int} {tgt : Nat} {dc : Decidable (x = 0)} {f g : Option R} (d : decode M.1 pc = .ok (.ifCond .eq off, 3)) (ht : (pc : Int) + off = (tgt : Int)) (hq : pc + 3 = q) (h : (if x = 0 then f else g) = some out) (kt : x = 0 → f = some out → JQ Y M s io B n tgt lv st) (kf : ¬ x = 0 → g = some out → JQ Y M s io B n q lv st) : JQ Y M s io B n pc lv (fun b => .int x :: st b) := by
  subst hq
  intro hO hn b hio H locs ls hP hD hS hl
  exact lv_if_eq hO.1 hO.2.1 d ht (fun c0 => kt c0 (by rw [if_pos c0] at h; exact h) hO hn b hio H locs ls hP hD hS hl) (fun c0 => kf c0 (by rw [if_neg c0] at h; exact h) hO hn b hio H locs ls hP hD hS hl)
theorem q_icmp_eq {x y : Int32} {off : Int} {tgt : Nat} {dc : Decidable (x = y)} {f g : Option R} (d : decode M.1 pc = .ok (.if_icmp .eq off, 3)) (ht : (pc : Int) + off = (tgt : Int)) (hq : pc + 3 = q) (h : (if x = y then f else g) = some out) (kt : x = y → f = some out → JQ Y M s io B n tgt lv st) (kf : ¬ x = y → g = some out → JQ Y M s io B n q lv st) : JQ Y M s io B n pc lv (fun b => .int y :: .int x :: st b) := by
  subst hq
  intro hO hn b hio H locs ls hP hD hS hl
  exact lv_icmp_eq hO.1 hO.2.1 d ht (fun c0 => kt c0 (by rw [if_pos c0] at h; exact h) hO hn b hio H locs ls hP hD hS hl) (fun c0 => kf c0 (by rw [if_neg c0] at h; exact h) hO hn b hio H locs ls hP hD hS hl)
theorem q_if_ne {x : Int32} {off : Int} {tgt : Nat} {dc : Decidable (x = 0)} {f g : Option R} (d : decode M.1 pc = .ok (.ifCond .ne off, 3)) (ht : (pc : Int) + off = (tgt : Int)) (hq : pc + 3 = q) (h : (if x = 0 then g else f) = some out) (kt : ¬ x = 0 → f = some out → JQ Y M s io B n tgt lv st) (kf : x = 0 → g = some out → JQ Y M s io B n q lv st) : JQ Y M s io B n pc lv (fun b => .int x :: st b) := by
  subst hq
  intro hO hn b hio H locs ls hP hD hS hl
  exact lv_if_ne hO.1 hO.2.1 d ht (fun c0 => kt c0 (by rw [if_neg c0] at h; exact h) hO hn b hio H locs ls hP hD hS hl) (fun c0 => kf c0 (by rw [if_pos c0] at h; exact h) hO hn b hio H locs ls hP hD hS hl)
theorem q_icmp_ne {x y : Int32} {off : Int} {tgt : Nat} {dc : Decidable (x = y)} {f g : Option R} (d : decode M.1 pc = .ok (.if_icmp .ne off, 3)) (ht : (pc : Int) + off = (tgt : Int)) (hq : pc + 3 = q) (h : (if x = y then g else f) = some out) (kt : ¬ x = y → f = some out → JQ Y M s io B n tgt lv st) (kf : x = y → g = some out → JQ Y M s io B n q lv st) : JQ Y M s io B n pc lv (fun b => .int y :: .int x :: st b) := by
  subst hq
  intro hO hn b hio H locs ls hP hD hS hl
  exact lv_icmp_ne hO.1 hO.2.1 d ht (fun c0 => kt c0 (by rw [if_neg c0] at h; exact h) hO hn b hio H locs ls hP hD hS hl) (fun c0 => kf c0 (by rw [if_pos c0] at h; exact h) hO hn b hio H locs ls hP hD hS hl)
theorem q_if_lt {x : Int32} {off : Int} {tgt : Nat} {dc : Decidable (x < 0)} {f g : Option R} (d : decode M.1 pc = .ok (.ifCond .lt off, 3)) (ht : (pc : Int) + off = (tgt : Int)) (hq : pc + 3 = q) (h : (if x < 0 then f else g) = some out) (kt : x < 0 → f = some out → JQ Y M s io B n tgt lv st) (kf : ¬ x < 0 → g = some out → JQ Y M s io B n q lv st) : JQ Y M s io B n pc lv (fun b => .int x :: st b) := by
  subst hq
  intro hO hn b hio H locs ls hP hD hS hl
  exact lv_if_lt hO.1 hO.2.1 d ht (fun c0 => kt c0 (by rw [if_pos c0] at h; exact h) hO hn b hio H locs ls hP hD hS hl) (fun c0 => kf c0 (by rw [if_neg c0] at h; exact h) hO hn b hio H locs ls hP hD hS hl)
theorem q_icmp_lt {x y : Int32} {off : Int} {tgt : Nat} {dc : Decidable (x < y)} {f g : Option R} (d : decode M.1 pc = .ok (.if_icmp .lt off, 3)) (ht : (pc : Int) + off = (tgt : Int)) (hq : pc + 3 = q) (h : (if x < y then f else g) = some out) (kt : x < y → f = some out → JQ Y M s io B n tgt lv st) (kf : ¬ x < y → g = some out → JQ Y M s io B n q lv st) : JQ Y M s io B n pc lv (fun b => .int y :: .int x :: st b) := by
  subst hq
  intro hO hn b hio H locs ls hP hD hS hl
  exact lv_icmp_lt hO.1 hO.2.1 d ht (fun c0 => kt c0 (by rw [if_pos c0] at h; exact h) hO hn b hio H locs ls hP hD hS hl) (fun c0 => kf c0 (by rw [if_neg c0] at h; exact h) hO hn b hio H locs ls hP hD hS hl)
theorem q_if_ge {x : Int32} {off : Int} {tgt : Nat} {dc : Decidable (0 ≤ x)} {f g : Option R} (d : decode M.1 pc = .ok (.ifCond .ge off, 3)) (ht : (pc : Int) + off = (tgt : Int)) (hq : pc + 3 = q) (h : (if 0 ≤ x then f else g) = some out) (kt : 0 ≤ x → f = some out → JQ Y M s io B n tgt lv st) (kf : ¬ 0 ≤ x → g = some out → JQ Y M s io B n q lv st) : JQ Y M s io B n pc lv (fun b => .int x :: st b) := by
  subst hq
  intro hO hn b hio H locs ls hP hD hS hl
  exact lv_if_ge hO.1 hO.2.1 d ht (fun c0 => kt c0 (by rw [if_pos c0] at h; exact h) hO hn b hio H locs ls hP hD hS hl) (fun c0 => kf c0 (by rw [if_neg c0] at h; exact h) hO hn b hio H locs ls hP hD hS hl)
theorem q_icmp_ge {x y : Int32} {off : Int} {tgt : Nat} {dc : Decidable (y ≤ x)} {f g : Option R} (d : decode M.1 pc = .ok (.if_icmp .ge off, 3)) (ht : (pc : Int) + off = (tgt : Int)) (hq : pc + 3 = q) (h : (if y ≤ x then f else g) = some out) (kt : y ≤ x → f = some out → JQ Y M s io B n tgt lv st) (kf : ¬ y ≤ x → g = some out → JQ Y M s io B n q lv st) : JQ Y M s io B n pc lv (fun b => .int y :: .int x :: st b) := by
  subst hq
  intro hO hn b hio H locs ls hP hD hS hl
  exact lv_icmp_ge hO.1 hO.2.1 d ht (fun c0 => kt c0 (by rw [if_pos c0] at h; exact h) hO hn b hio H locs ls hP hD hS hl) (fun c0 => kf c0 (by rw [if_neg c0] at h; exact h) hO hn b hio H locs ls hP hD hS hl)
theorem q_if_gt {x : Int32} {off : Int} {tgt : Nat} {dc : Decidable (0 < x)} {f g : Option R} (d : decode M.1 pc = .ok (.ifCond .gt off, 3)) (ht : (pc : Int) + off = (tgt : Int)) (hq : pc + 3 = q) (h : (if 0 < x then f else g) = some out) (kt : 0 < x → f = some out → JQ Y M s io B n tgt lv st) (kf : ¬ 0 < x → g = some out → JQ Y M s io B n q lv st) : JQ Y M s io B n pc lv (fun b => .int x :: st b) := by
  subst hq
  intro hO hn b hio H locs ls hP hD hS hl
  exact lv_if_gt hO.1 hO.2.1 d ht (fun c0 => kt c0 (by rw [if_pos c0] at h; exact h) hO hn b hio H locs ls hP hD hS hl) (fun c0 => kf c0 (by rw [if_neg c0] at h; exact h) hO hn b hio H locs ls hP hD hS hl)
theorem q_icmp_gt {x y : Int32} {off : Int} {tgt : Nat} {dc : Decidable (y < x)} {f g : Option R} (d : decode M.1 pc = .ok (.if_icmp .gt off, 3)) (ht : (pc : Int) + off = (tgt : Int)) (hq : pc + 3 = q) (h : (if y < x then f else g) = some out) (kt : y < x → f = some out → JQ Y M s io B n tgt lv st) (kf : ¬ y < x → g = some out → JQ Y M s io B n q lv st) : JQ Y M s io B n pc lv (fun b => .int y :: .int x :: st b) := by
  subst hq
  intro hO hn b hio H locs ls hP hD hS hl
  exact lv_icmp_gt hO.1 hO.2.1 d ht (fun c0 => kt c0 (by rw [if_pos c0] at h; exact h) hO hn b hio H locs ls hP hD hS hl) (fun c0 => kf c0 (by rw [if_neg c0] at h; exact h) hO hn b hio H locs ls hP hD hS hl)
theorem q_if_le {x : Int32} {off : Int} {tgt : Nat} {dc : Decidable (x ≤ 0)} {f g : Option R} (d : decode M.1 pc = .ok (.ifCond .le off, 3)) (ht : (pc : Int) + off = (tgt : Int)) (hq : pc + 3 = q) (h : (if x ≤ 0 then f else g) = some out) (kt : x ≤ 0 → f = some out → JQ Y M s io B n tgt lv st) (kf : ¬ x ≤ 0 → g = some out → JQ Y M s io B n q lv st) : JQ Y M s io B n pc lv (fun b => .int x :: st b) := by
  subst hq
  intro hO hn b hio H locs ls hP hD hS hl
  exact lv_if_le hO.1 hO.2.1 d ht (fun c0 => kt c0 (by rw [if_pos c0] at h; exact h) hO hn b hio H locs ls hP hD hS hl) (fun c0 => kf c0 (by rw [if_neg c0] at h; exact h) hO hn b hio H locs ls hP hD hS hl)
theorem q_icmp_le {x y : Int32} {off : Int} {tgt : Nat} {dc : Decidable (x ≤ y)} {f g : Option R} (d : decode M.1 pc = .ok (.if_icmp .le off, 3)) (ht : (pc : Int) + off = (tgt : Int)) (hq : pc + 3 = q) (h : (if x ≤ y then f else g) = some out) (kt : x ≤ y → f = some out → JQ Y M s io B n tgt lv st) (kf : ¬ x ≤ y → g = some out → JQ Y M s io B n q lv st) : JQ Y M s io B n pc lv (fun b => .int y :: .int x :: st b) := by
  subst hq
  intro hO hn b hio H locs ls hP hD hS hl
  exact lv_icmp_le hO.1 hO.2.1 d ht (fun c0 => kt c0 (by rw [if_pos c0] at h; exact h) hO hn b hio H locs ls hP hD hS hl) (fun c0 => kf c0 (by rw [if_neg c0] at h; exact h) hO hn b hio H locs ls hP hD hS hl)
theorem q_goto {off : Int} {tgt : Nat} (d : decode M.1 pc = .ok (.goto off, 3)) (ht : (pc : Int) + off = (tgt : Int)) (k : JQ Y M s io B n tgt lv st) : JQ Y M s io B n pc lv st := by
  intro hO hn b hio H locs ls hP hD hS hl
  exact lv_goto hO.1 hO.2.1 d ht (k hO hn b hio H locs ls hP hD hS hl)
theorem q_sub (ks : List Nat) (lv2 : (Nat → Nat) → List (Nat × Value)) (hv : ∀ b, lv_pick (lv b) ks = lv2 b) (k : JQ Y M s io B n pc lv2 st) : JQ Y M s io B n pc lv st := by
  intro hO hn b hio H locs ls hP hD hS hl
  exact k hO hn b hio H locs ls hP hD hS (lv_sub hl ks (hv b))
/-! arrays -/
theorem q_iald (a len : Nat) (f : Nat → Int32) {i : Int32} {g : Nat → Option R} (ho : B[a]? = some (.inl (len, f))) (d : decode M.1 pc = .ok (.iaload, 1)) (hq : pc + 1 = q) (h : rd i len g = some out) (k : ∀ j, g j = some out → JQ Y M s io B n q lv (fun b => .int (f j) :: st b)) : JQ Y M s io B n pc lv (fun b => .int i :: .ref (b a) :: st b) := by
  subst hq
  intro hO hn b hio H locs ls hP hD hS hl
  obtain ⟨hin, h2⟩ := rd_of h
  exact va_iald hO.1 hO.2.1 hO.2.2.2.2.2.2.2.1 hP _ 0 (wsQ_at ho) rfl hin d (k _ h2 hO hn b hio H locs ls hP hD hS hl)
theorem q_lald (a len : Nat) (f : Nat → Int64) {i : Int32} {g : Nat → Option R} (ho : B[a]? = some (.inr (len, f))) (d : decode M.1 pc = .ok (.laload, 1)) (hq : pc + 1 = q) (h : rd i len g = some out) (k : ∀ j, g j = some out → JQ Y M s io B n q lv (fun b => .long (f j) :: st b)) : JQ Y M s io B n pc lv (fun b => .int i :: .ref (b a) :: st b) := by
  subst hq
  intro hO hn b hio H locs ls hP hD hS hl
  obtain ⟨hin, h2⟩ := rd_of h
  exact va_lald hO.1 hO.2.1 hO.2.2.2.2.2.2.2.1 hP _ 2 (wsQ_at ho) rfl hin d (k _ h2 hO hn b hio H locs ls hP hD hS hl)
theorem q_iast (a len : Nat) (f : Nat → Int32) (B2 : (Nat → Int32) → List AE) {i v : Int32} {g : (Nat → Int32) → Option R} (ho : B[a]? = some (.inl (len, f))) (hB : ∀ f2, B.set a (.inl (len, f2)) = B2 f2) (d : decode M.1 pc = .ok (.iastore, 1)) (hq : pc + 1 = q) (h : stA i len f v g = some out) (k : ∀ f2, g f2 = some out → JQ Y M s io (B2 f2) n q lv st) : JQ Y M s io B n pc lv (fun b => .int v :: .int i :: .ref (b a) :: st b) := by
  subst hq
  intro hO hn b hio H locs ls hP hD hS hl
  obtain ⟨hin, h2⟩ := rd_of h
  refine va_iast hO.1 hO.2.1 hO.2.2.2.2.2.2.2.1 hP hD hS _ 0 (wsQ_at ho) rfl hin d (fun H1 locs1 hP1 hD1 hS1 => ?_)
  have e : ((Sum.inl (xk (qX Y) 0, len, .inl (upd f i.toNatClampNeg v)) : va_E)) = aE (xk (qX Y)) (.inl (len, upd f i.toNatClampNeg v)) := rfl
  rw [e, wsQ_set, hB] at hP1 hD1
  exact k _ h2 hO hn b hio H1 locs1 ls hP1 hD1 hS1 hl
theorem q_last (a len : Nat) (f : Nat → Int64) (B2 : (Nat → Int64) → List AE) {i : Int32} {v : Int64} {g : (Nat → Int64) → Option R} (ho : B[a]? = some (.inr (len, f))) (hB : ∀ f2, B.set a (.inr (len, f2)) = B2 f2) (d : decode M.1 pc = .ok (.lastore, 1)) (hq : pc + 1 = q) (h : stB i len f v g = some out) (k : ∀ f2, g f2 = some out → JQ Y M s io (B2 f2) n q lv st) : JQ Y M s io B n pc lv (fun b => .long v :: .int i :: .ref (b a) :: st b) := by
  subst hq
  intro hO hn b hio H locs ls hP hD hS hl
  obtain ⟨hin, h2⟩ := rd_of h
  refine va_last hO.1 hO.2.1 hO.2.2.2.2.2.2.2.1 hP hD hS _ 2 (wsQ_at ho) rfl hin d (fun H1 locs1 hP1 hD1 hS1 => ?_)
  have e : ((Sum.inl (xk (qX Y) 2, len, .inr (.inl (vp_updL f i.toNatClampNeg v))) : va_E)) = aE (xk (qX Y)) (.inr (len, vp_updL f i.toNatClampNeg v)) := rfl
  rw [e, wsQ_set, hB] at hP1 hD1
  exact k _ h2 hO hn b hio H1 locs1 ls hP1 hD1 hS1 hl
theorem q_sld {i : Int32} {g : Nat → Option R} (d : decode M.1 pc = .ok (.iaload, 1)) (hq : pc + 1 = q) (h : rd i (qL Y) g = some out) (k : ∀ j, g j = some out → JQ Y M s io B n q lv (fun b => .int (qs Y j) :: st b)) : JQ Y M s io B n pc lv (fun b => .int i :: .ref (qb Y) :: st b) := by
  subst hq
  intro hO hn b hio H locs ls hP hD hS hl
  obtain ⟨hin, h2⟩ := rd_of h
  exact va_sld hO.1 hO.2.1 hO.2.2.2.2.2.2.2.2.2.2.1 hO.2.2.2.2.2.2.2.2.2.2.2.1 hO.2.2.2.2.2.2.2.2.2.2.2.2.1 hS hin d (k _ h2 hO hn b hio H locs ls hP hD hS hl)
theorem q_slen (d : decode M.1 pc = .ok (.arraylength, 1)) (hq : pc + 1 = q) (k : JQ Y M s io B n q lv (fun b => .int (Int32.ofNat (qL Y)) :: st b)) : JQ Y M s io B n pc lv (fun b => .ref (qb Y) :: st b) := by
  subst hq
  intro hO hn b hio H locs ls hP hD hS hl
  exact va_slen hO.1 hO.2.1 hO.2.2.2.2.2.2.2.2.2.2.1 hO.2.2.2.2.2.2.2.2.2.2.2.1 hO.2.2.2.2.2.2.2.2.2.2.2.2.1 hS d (k hO hn b hio H locs ls hP hD hS hl)
theorem io_cut {m : Nat} {b e : Nat → Nat} (hm : ∀ k ∈ io, k < m) (hio : ∀ k, k < io.length → b (io.getD k 0) = qi Y k) : ∀ k, k < io.length → cut m b e (io.getD k 0) = qi Y k := by
  intro k hk
  have hg : io.getD k 0 = io[k] := by rw [List.getD_eq_getElem?_getD, List.getElem?_eq_getElem hk]; rfl
  have h1 := hm io[k] (List.getElem_mem hk)
  rw [hg, cut_lt h1, ← hg]
  exact hio k hk
theorem ws_new {ca : Nat → ClassId} {ad : Nat → Nat} {b : Nat → Nat} {m a : Nat} {x : AE} (hm : B.length = m) : wsQ ca ad s (cut m b (fun _ => a)) (B ++ [x]) = wsQ ca ad s b B ++ [(a, aE ca x)] := by
  subst hm
  unfold wsQ
  rw [wsA_app, wsA_cong (fun k hk => cut_lt hk), List.append_assoc]
  congr 2
  show [(cut B.length b (fun _ => a) (B.length + 0), aE ca x)] = _
  rw [cut_ge (Nat.le_add_right _ _)]
theorem q_newI (c : Nat) (m N : Nat) (B2 : List AE) {len : Int32} {g : Nat → Option R} (hw : Cond.arrayClass .int ∈ BW) (hlen : ¬ len < 0) (hN : len.toNatClampNeg = N) (hb : N ≤ 10000) (hc : N ≤ 12 * c) (hc1 : 1 ≤ c) (hm : B.length = m) (hlv : ∀ b e, lv (cut m b e) = lv b) (hst : ∀ b e, st (cut m b e) = st b) (him : ∀ k ∈ io, k < m) (hB : B ++ [.inl (N, zI)] = B2) (d : decode M.1 pc = .ok (.newarray .int, 2)) (hq : pc + 2 = q) (h : al M.2.2.2.2 n c g = some out) (k : g (n + c) = some out → JQ Y M s io B2 (n + c) q lv (fun b => .ref (b m) :: st b)) : JQ Y M s io B n pc lv (fun b => .int len :: st b) := by
  subst hq
  subst hB
  intro hO hn b hio H locs ls hP hD hS hl
  obtain ⟨hN', h2⟩ := al_of h
  have r1 := hO.2.2.2.2.2.2.2.2.2.2.2.2.2.2.1
  have r2 := hO.2.2.2.2.2.2.2.2.2.2.2.2.2.2.2.1
  refine va_newa (atype := .int) (a0 := (N, .inl (fun _ => 0))) hO.1 hO.2.1 (hO.2.2.2.2.2.1 _ hw) rfl hO.2.2.2.2.2.2.2.1 hP hD hS hO.2.2.2.2.2.2.2.2.2.1 (fun cA => rfl) hlen hN (by show N * 4 ≤ _; omega) (by omega) (by omega) d (fun a cA H1 hK1 hP1 hD1 hS1 => ?_)
  have hcA : cA = xk (qX Y) 0 := arr_same (ty := .int) (fun C => by simp) (hO.2.2.2.2.2.2.2.1.2 0 _ rfl).2 (hK1.2 4 (cA, .int) rfl).2
  subst hcA
  have e : ((a, Sum.inl (xk (qX Y) 0, N, .inl (fun _ => 0))) : Nat × va_E) = (a, aE (xk (qX Y)) (.inl (N, zI))) := rfl
  rw [e, ← ws_new hm] at hP1 hD1
  refine W.widen (k := n + c) (n := 12 * (n + c)) (by omega) (by omega) ?_
  have kk := k h2 hO hN' (cut m b (fun _ => a)) (io_cut him hio) H1 locs ls hP1 hD1 hS1 (by rw [hlv]; exact hl)
  have hz : (fun b => Value.ref (b m) :: st b) (cut m b (fun _ => a)) = .ref a :: st b := by
    show Value.ref (cut m b (fun _ => a) m) :: st (cut m b (fun _ => a)) = _
    rw [cut_ge (Nat.le_refl _), hst]
  rw [hz] at kk
  exact kk
theorem q_newL (c : Nat) (m N : Nat) (B2 : List AE) {len : Int32} {g : Nat → Option R} (hw : Cond.arrayClass .long ∈ BW) (hlen : ¬ len < 0) (hN : len.toNatClampNeg = N) (hb : N ≤ 10000) (hc : N ≤ 12 * c) (hc1 : 1 ≤ c) (hm : B.length = m) (hlv : ∀ b e, lv (cut m b e) = lv b) (hst : ∀ b e, st (cut m b e) = st b) (him : ∀ k ∈ io, k < m) (hB : B ++ [.inr (N, zL)] = B2) (d : decode M.1 pc = .ok (.newarray .long, 2)) (hq : pc + 2 = q) (h : al M.2.2.2.2 n c g = some out) (k : g (n + c) = some out → JQ Y M s io B2 (n + c) q lv (fun b => .ref (b m) :: st b)) : JQ Y M s io B n pc lv (fun b => .int len :: st b) := by
  subst hq
  subst hB
  intro hO hn b hio H locs ls hP hD hS hl
  obtain ⟨hN', h2⟩ := al_of h
  have r1 := hO.2.2.2.2.2.2.2.2.2.2.2.2.2.2.1
  have r2 := hO.2.2.2.2.2.2.2.2.2.2.2.2.2.2.2.1
  refine va_newa (atype := .long) (a0 := (N, .inr (.inl (fun _ => 0)))) hO.1 hO.2.1 (hO.2.2.2.2.2.1 _ hw) rfl hO.2.2.2.2.2.2.2.1 hP hD hS hO.2.2.2.2.2.2.2.2.2.1 (fun cA => rfl) hlen hN (by show N * 8 ≤ _; omega) (by omega) (by omega) d (fun a cA H1 hK1 hP1 hD1 hS1 => ?_)
  have hcA : cA = xk (qX Y) 2 := arr_same (ty := .long) (fun C => by simp) (hO.2.2.2.2.2.2.2.1.2 2 _ rfl).2 (hK1.2 4 (cA, .long) rfl).2
  subst hcA
  have e : ((a, Sum.inl (xk (qX Y) 2, N, .inr (.inl (fun _ => 0)))) : Nat × va_E) = (a, aE (xk (qX Y)) (.inr (N, zL))) := rfl
  rw [e, ← ws_new hm] at hP1 hD1
  refine W.widen (k := n + c) (n := 12 * (n + c)) (by omega) (by omega) ?_
  have kk := k h2 hO hN' (cut m b (fun _ => a)) (io_cut him hio) H1 locs ls hP1 hD1 hS1 (by rw [hlv]; exact hl)
  have hz : (fun b => Value.ref (b m) :: st b) (cut m b (fun _ => a)) = .ref a :: st b := by
    show Value.ref (cut m b (fun _ => a) m) :: st (cut m b (fun _ => a)) = _
    rw [cut_ge (Nat.le_refl _), hst]
  rw [hz] at kk
  exact kk
theorem gD_at {ks : List Nat} {i : Nat} (h : i < ks.length) : ks[i]? = some (ks.getD i 0) := by
  rw [List.getD_eq_getElem?_getD, List.getElem?_eq_getElem h]; rfl
/-- the arrays in another order, some left out -/
theorem q_pick (ks : List Nat) (B2 : List AE) (io2 : List Nat) (lv2 : (Nat → Nat) → List (Nat × Value)) (st2 : (Nat → Nat) → List Value) (hk : ks.map (fun i => B[i]?) = B2.map some) (hnd : va_nd ks = true) (hi2 : ∀ k ∈ io2, k < ks.length) (hio2 : io2.map (fun i => ks.getD i 0) = io) (hlv : ∀ b, lv2 (fun i => b (ks.getD i 0)) = lv b) (hst : ∀ b, st2 (fun i => b (ks.getD i 0)) = st b) (k : JQ Y M s io2 B2 n pc lv2 st2) : JQ Y M s io B n pc lv st := by
  intro hO hn b hio H locs ls hP hD hS hl
  have hlen : ks.length = B2.length := by have := congrArg List.length hk; simpa using this
  have key : ∀ (i : Nat) (x : Nat × va_E), (wsA (xk (qX Y)) (fun i => b (ks.getD i 0)) B2)[i]? = some x → i < ks.length ∧ (wsA (xk (qX Y)) b B)[ks.getD i 0]? = some x := by
    intro i x hx
    have hl : i < B2.length := by have := (List.getElem?_eq_some_iff.mp hx).1; rw [wsA_len] at this; exact this
    have hl2 : i < ks.length := by omega
    refine ⟨hl2, ?_⟩
    have h1 : (ks.map (fun i => B[i]?))[i]? = (B2.map some)[i]? := by rw [hk]
    rw [List.getElem?_map, List.getElem?_map, gD_at hl2, List.getElem?_eq_getElem hl] at h1
    have h2 : B[ks.getD i 0]? = some B2[i] := Option.some.inj h1
    have h3 : (wsA (xk (qX Y)) (fun i => b (ks.getD i 0)) B2)[i]? = some (b (ks.getD i 0), aE (xk (qX Y)) B2[i]) := wsA_at (List.getElem?_eq_getElem hl)
    rw [h3] at hx
    cases hx
    exact wsA_at h2
  have key2 : ∀ (i : Nat) (x : Nat × va_E), (wsQ (xk (qX Y)) (xad (qX Y)) s (fun i => b (ks.getD i 0)) B2)[i]? = some x → (wsQ (xk (qX Y)) (xad (qX Y)) s b B)[(fun i => if i < (WC (xk (qX Y)) (xad (qX Y)) s).length then i else (WC (xk (qX Y)) (xad (qX Y)) s).length + ks.getD (i - (WC (xk (qX Y)) (xad (qX Y)) s).length) 0) i]? = some x := by
    intro i x hx
    unfold wsQ at hx ⊢
    show (_ ++ _)[if i < _ then i else _]? = _
    by_cases hi : i < (WC (xk (qX Y)) (xad (qX Y)) s).length
    · rw [if_pos hi, List.getElem?_append_left hi]
      rw [List.getElem?_append_left hi] at hx
      exact hx
    · rw [if_neg hi, List.getElem?_append_right (Nat.le_add_right _ _), Nat.add_sub_cancel_left]
      rw [List.getElem?_append_right (by omega)] at hx
      exact (key _ x hx).2
  have hio' : ∀ k, k < io2.length → (fun i => b (ks.getD i 0)) (io2.getD k 0) = qi Y k := by
    intro k hk2
    have h1 : io.length = io2.length := by rw [← hio2, List.length_map]
    have h2 : io.getD k 0 = ks.getD (io2.getD k 0) 0 := by
      rw [← hio2, List.getD_eq_getElem?_getD, List.getElem?_map, gD_at hk2]; rfl
    show b (ks.getD (io2.getD k 0) 0) = _
    rw [← h2]
    exact hio k (by omega)
  have h0 := k hO hn (fun i => b (ks.getD i 0)) hio' H locs ls (hP.by _ key2) (hD.by _ key2 (fun i j hi hj hg => ?_)) hS (by rw [hlv]; exact hl)
  · rw [hst] at h0
    exact h0
  · have hg : (if i < (WC (xk (qX Y)) (xad (qX Y)) s).length then i else (WC (xk (qX Y)) (xad (qX Y)) s).length + ks.getD (i - (WC (xk (qX Y)) (xad (qX Y)) s).length) 0) = (if j < (WC (xk (qX Y)) (xad (qX Y)) s).length then j else (WC (xk (qX Y)) (xad (qX Y)) s).length + ks.getD (j - (WC (xk (qX Y)) (xad (qX Y)) s).length) 0) := hg
    have hw : (wsQ (xk (qX Y)) (xad (qX Y)) s (fun i => b (ks.getD i 0)) B2).length = (WC (xk (qX Y)) (xad (qX Y)) s).length + ks.length := by unfold wsQ; rw [List.length_append, wsA_len, hlen]
    rw [hw] at hi hj
    by_cases h1 : i < (WC (xk (qX Y)) (xad (qX Y)) s).length
    · rw [if_pos h1] at hg
      by_cases h2 : j < (WC (xk (qX Y)) (xad (qX Y)) s).length
      · rw [if_pos h2] at hg; exact hg
      · rw [if_neg h2] at hg; omega
    · rw [if_neg h1] at hg
      by_cases h2 : j < (WC (xk (qX Y)) (xad (qX Y)) s).length
      · rw [if_pos h2] at hg; omega
      · rw [if_neg h2] at hg
        have h3 := Nat.add_left_cancel hg
        have h4 := va_nd_inj ks hnd (i - (WC (xk (qX Y)) (xad (qX Y)) s).length) (j - (WC (xk (qX Y)) (xad (qX Y)) s).length) _ (gD_at (by omega)) (by rw [h3]; exact gD_at (by omega))
        omega
/-! calls -/
theorem blindQ {S : va_W} {D : va_G} {ca : Nat → ClassId} {sz b0 L : Nat} {xs0 : Nat → Int32} {as : List Value} : FrameBlind (va_Pc as (fun U => U.heap.size = sz ∧ va_P D vwCl S U.heap ∧ va_K D vwCl (tyL ca) U ∧ va_D (fun _ => True) S ∧ NK U ∧ va_X b0 L xs0 U U.heap ∧ b0 < sz ∧ ¬ va_A S sz b0)) := by
  intro a U g mk q
  obtain ⟨q0, q1, qP, qK, qD, qN, qX, q2⟩ := q
  exact ⟨q0, q1, qP, va_K.moved (u := U) (U := U.calling g mk a) (Vm.Alike.refl U.vm) qK, qD, qN.same rfl, va_X.moved (u := U) (U := U.calling g mk a) (Vm.Alike.refl U.vm) qX, q2⟩
theorem roomQ {d' N' nl : Nat} (hd : d' < M.2.2.2.1) (hn : nl ≤ 21) (hO : OKQ Y M) : (rmQ d' N').frames + 1 ≤ (qR Y).frames ∧ 8 + (nl + 11) + (rmQ d' N').locals ≤ (qR Y).locals := by
  have r0 := hO.2.2.2.2.2.2.2.2.2.2.2.2.2.1
  have r3 := hO.2.2.2.2.2.2.2.2.2.2.2.2.2.2.2.2
  show d' + 1 ≤ (qR Y).frames ∧ 8 + (nl + 11) + 50 * d' ≤ (qR Y).locals
  omega
theorem roomX {d' nl : Nat} (hd : d' < M.2.2.2.1) (hn : nl ≤ 21) (hO : OKQ Y M) : (rmL d').frames + 1 ≤ (qR Y).frames ∧ 8 + (nl + 11) + (rmL d').locals ≤ (qR Y).locals := by
  have r0 := hO.2.2.2.2.2.2.2.2.2.2.2.2.2.1
  have r3 := hO.2.2.2.2.2.2.2.2.2.2.2.2.2.2.2.2
  show d' + 1 ≤ (qR Y).frames ∧ 8 + (nl + 11) + 50 * d' ≤ (qR Y).locals
  omega
theorem scr_now (hO : OKQ Y M) {H : Heap} {locs : List Loc} (hS : va_S (xA (qX Y)) (xs (qX Y)).heap H locs) {U : State} (hU : U.heap = H) (hW : (xs (qX Y)).WarmedH U.vm) : va_X (qb Y) (qL Y) (qs Y) U U.heap := by
  rw [hU]
  exact va_X.moved hW.alike (va_X.kept hO.2.2.2.2.2.2.2.2.2.2.1 (hS.2.1 _ hO.2.2.2.2.2.2.2.2.2.2.2.1 hO.2.2.2.2.2.2.2.2.2.2.2.2.1))
/-- a static method of the law, over the last arrays -/
theorem q_call {y : MethodName} {cb : ByteArray} {nl' n' d' N' idx : Nat} {rt : FieldType} {as : (Nat → Nat) → (Nat → Nat) → Nat → List Value} {C C' : List AE} {v : Value} (Br : List AE) (mr : Nat) (As : (Nat → Nat) → List Value) (rest : (Nat → Nat) → List Value) (hc : ConQ .ireturn d' N' y cb nl' (some rt) (qL Y) (qs Y) as C none (fun _ => v) C' none) (hB : B = Br ++ C) (hmr : Br.length = mr) (hl' : C'.length = C.length) (ms : MS RL idx y cb nl' (some rt) n') (hd : d' < M.2.2.2.1) (hN : N' = 0 ∨ n + N' ≤ M.2.2.2.2) (has : ∀ b, as (fun i => b (mr + i)) (xad (qX Y)) (qb Y) = As b) (hna : ∀ b, (As b).length = n') (hst : ∀ b, st b = (As b).reverse ++ rest b) (hr : ∀ b, ((rest b).map fun v => v.category).sum ≤ 8) (d : decode M.1 pc = .ok (.invokestatic idx, 3)) (hq : pc + 3 = q) (k : JQ Y M s io (Br ++ C') (n + N') q lv (fun b => v :: rest b)) : JQ Y M s io B n pc lv st := by
  subst hq
  subst hB
  subst hmr
  intro hO hn b hio H locs ls hP hD hS hl
  have hw : wsQ (xk (qX Y)) (xad (qX Y)) s b (Br ++ C) = wsQ (xk (qX Y)) (xad (qX Y)) s b Br ++ wsA (xk (qX Y)) (fun i => b (Br.length + i)) C := by unfold wsQ; rw [wsA_app, List.append_assoc]
  rw [hw] at hP hD
  have hPp := part_app hP
  have hDp := partD_app hD
  have hF := freeP (H0 := (xs (qX Y)).heap) hDp.2 hS.1 hO.2.2.2.2.2.2.2.2.2.1
  have r1 := hO.2.2.2.2.2.2.2.2.2.2.2.2.2.2.1
  have r2 := hO.2.2.2.2.2.2.2.2.2.2.2.2.2.2.2.1
  have hN2 : n + N' ≤ M.2.2.2.2 := by rcases hN with h | h <;> omega
  refine any_callE (mc := N') (ms := 12 * N') (r := fun _ => some v) (A1 := va_A (wsA (xk (qX Y)) (fun i => b (Br.length + i)) C) H.size) (P := fun (b' : Nat → Nat) t => (∀ k, k < C.length → b' k = b (Br.length + k)) ∧ va_P (xD (qX Y)) vwCl (wsA (xk (qX Y)) b' C') t.heap ∧ va_D (va_A (wsA (xk (qX Y)) (fun i => b (Br.length + i)) C) H.size) (wsA (xk (qX Y)) b' C')) (rest := rest b) (free := va_A (wsA (xk (qX Y)) (fun i => b (Br.length + i)) C) H.size)
    (va_runS (As := As b) (rest := rest b) ⟨hO.1, hO.2.1, hO.2.2.2.1, hO.2.2.2.2.1, hO.2.2.2.2.2.1⟩ (hc (xl (qX Y)) (xD (qX Y)) (xk (qX Y)) (xad (qX Y)) (fun i => b (Br.length + i)) (qb Y) H.size) (va_cwS n' hO.2.2.2.2.2.1 ms.1 rfl rfl rfl ms.2.1 (roomQ hd ms.2.2 hO)) ⟨blindQ, fun U hU hW => ⟨by rw [has], by rw [hU], by rw [hU]; exact hPp.2, va_K.moved hW.alike hO.2.2.2.2.2.2.2.1, hDp.2.weaken (fun _ _ _ _ => trivial), hO.2.2.2.2.2.2.2.2.1.warm hW, scr_now hO hS hU hW, Nat.lt_of_lt_of_le hO.2.2.2.2.2.2.2.2.2.2.2.1 hS.1, fun z => hO.2.2.2.2.2.2.2.2.2.2.2.2.1 (hF _ z)⟩⟩ rfl (hna b) hl.1 (hst b) (lv_room (hr b)) d ⟨by omega, by omega⟩) hS hF hF (fun b' t H1 locs1 ht hPt hk hS1 => ?_)
  have hJ := join2 hP hD hk hF (by rw [← ht]; exact hPt.2.1) hPt.2.2
  have hw2 : wsA (xk (qX Y)) b' C' = wsA (xk (qX Y)) (fun i => b (Br.length + i)) C' := wsA_cong (fun k hk => hPt.1 k (by omega))
  rw [hw2, show wsQ (xk (qX Y)) (xad (qX Y)) s b Br ++ wsA (xk (qX Y)) (fun i => b (Br.length + i)) C' = wsQ (xk (qX Y)) (xad (qX Y)) s b (Br ++ C') by unfold wsQ; rw [wsA_app, List.append_assoc]] at hJ
  have kk := k hO hN2 b hio H1 locs1 ls hJ.1 hJ.2 hS1 hl
  rw [Nat.mul_add] at kk
  exact kk
/-- the same, of a method that makes an array and answers it -/
theorem q_callA {y : MethodName} {cb : ByteArray} {nl' n' d' N' idx : Nat} {rt : FieldType} {as : (Nat → Nat) → (Nat → Nat) → Nat → List Value} {C C' : List AE} {g : Nat → Option R} (Br : List AE) (mr mc m : Nat) (As : (Nat → Nat) → List Value) (rest : (Nat → Nat) → List Value) (hc : ConQ .areturn d' N' y cb nl' (some rt) (qL Y) (qs Y) as C none (fun b => .ref (b mc)) C' none) (hB : B = Br ++ C) (hmr : Br.length = mr) (hmc : C.length = mc) (hm : mr + mc = m) (ms : MS RL idx y cb nl' (some rt) n') (hd : d' < M.2.2.2.1) (h : al M.2.2.2.2 n N' g = some out) (has : ∀ b, as (fun i => b (mr + i)) (xad (qX Y)) (qb Y) = As b) (hna : ∀ b, (As b).length = n') (hst : ∀ b, st b = (As b).reverse ++ rest b) (hr : ∀ b, ((rest b).map fun v => v.category).sum ≤ 8) (hlv : ∀ b e, lv (cut m b e) = lv b) (hrs : ∀ b e, rest (cut m b e) = rest b) (him : ∀ k ∈ io, k < m) (d : decode M.1 pc = .ok (.invokestatic idx, 3)) (hq : pc + 3 = q) (k : g (n + N') = some out → JQ Y M s io (Br ++ C') (n + N') q lv (fun b => .ref (b m) :: rest b)) : JQ Y M s io B n pc lv st := by
  subst hq
  subst hB
  subst hmr
  subst hmc
  subst hm
  intro hO hn b hio H locs ls hP hD hS hl
  obtain ⟨hN2, h2⟩ := al_of h
  have hw : wsQ (xk (qX Y)) (xad (qX Y)) s b (Br ++ C) = wsQ (xk (qX Y)) (xad (qX Y)) s b Br ++ wsA (xk (qX Y)) (fun i => b (Br.length + i)) C := by unfold wsQ; rw [wsA_app, List.append_assoc]
  rw [hw] at hP hD
  have hPp := part_app hP
  have hDp := partD_app hD
  have hF := freeP (H0 := (xs (qX Y)).heap) hDp.2 hS.1 hO.2.2.2.2.2.2.2.2.2.1
  have r1 := hO.2.2.2.2.2.2.2.2.2.2.2.2.2.2.1
  have r2 := hO.2.2.2.2.2.2.2.2.2.2.2.2.2.2.2.1
  refine any_callE (mc := N') (ms := 12 * N') (r := fun (b' : Nat → Nat) => some (.ref (b' C.length))) (A1 := va_A (wsA (xk (qX Y)) (fun i => b (Br.length + i)) C) H.size) (P := fun (b' : Nat → Nat) t => (∀ k, k < C.length → b' k = b (Br.length + k)) ∧ va_P (xD (qX Y)) vwCl (wsA (xk (qX Y)) b' C') t.heap ∧ va_D (va_A (wsA (xk (qX Y)) (fun i => b (Br.length + i)) C) H.size) (wsA (xk (qX Y)) b' C')) (rest := rest b) (free := va_A (wsA (xk (qX Y)) (fun i => b (Br.length + i)) C) H.size)
    (va_runS (As := As b) (rest := rest b) ⟨hO.1, hO.2.1, hO.2.2.2.1, hO.2.2.2.2.1, hO.2.2.2.2.2.1⟩ (hc (xl (qX Y)) (xD (qX Y)) (xk (qX Y)) (xad (qX Y)) (fun i => b (Br.length + i)) (qb Y) H.size) (va_cwS n' hO.2.2.2.2.2.1 ms.1 rfl rfl rfl ms.2.1 (roomQ hd ms.2.2 hO)) ⟨blindQ, fun U hU hW => ⟨by rw [has], by rw [hU], by rw [hU]; exact hPp.2, va_K.moved hW.alike hO.2.2.2.2.2.2.2.1, hDp.2.weaken (fun _ _ _ _ => trivial), hO.2.2.2.2.2.2.2.2.1.warm hW, scr_now hO hS hU hW, Nat.lt_of_lt_of_le hO.2.2.2.2.2.2.2.2.2.2.2.1 hS.1, fun z => hO.2.2.2.2.2.2.2.2.2.2.2.2.1 (hF _ z)⟩⟩ rfl (hna b) hl.1 (hst b) (lv_room (hr b)) d ⟨by omega, by omega⟩) hS hF hF (fun b' t H1 locs1 ht hPt hk hS1 => ?_)
  have hJ := join2 hP hD hk hF (by rw [← ht]; exact hPt.2.1) hPt.2.2
  have e1 : wsA (xk (qX Y)) (cut (Br.length + C.length) b (fun k => b' (k - Br.length))) Br = wsA (xk (qX Y)) b Br := wsA_cong (fun k hk => cut_lt (by omega))
  have e2 : wsA (xk (qX Y)) (fun i => cut (Br.length + C.length) b (fun k => b' (k - Br.length)) (Br.length + i)) C' = wsA (xk (qX Y)) b' C' := wsA_cong (fun k hk => by
    by_cases hc : k < C.length
    · rw [cut_lt (by omega), hPt.1 k hc]
    · rw [cut_ge (by omega), Nat.add_sub_cancel_left])
  have e3 : wsQ (xk (qX Y)) (xad (qX Y)) s b Br ++ wsA (xk (qX Y)) b' C' = wsQ (xk (qX Y)) (xad (qX Y)) s (cut (Br.length + C.length) b (fun k => b' (k - Br.length))) (Br ++ C') := by
    unfold wsQ
    rw [wsA_app, e1, e2, List.append_assoc]
  rw [e3] at hJ
  have kk := k h2 hO hN2 (cut (Br.length + C.length) b (fun k => b' (k - Br.length))) (io_cut him hio) H1 locs1 ls hJ.1 hJ.2 hS1 (by rw [hlv]; exact hl)
  have hz : (fun b => Value.ref (b (Br.length + C.length)) :: rest b) (cut (Br.length + C.length) b (fun k => b' (k - Br.length))) = .ref (b' C.length) :: rest b := by
    show Value.ref (cut (Br.length + C.length) b (fun k => b' (k - Br.length)) (Br.length + C.length)) :: rest (cut (Br.length + C.length) b (fun k => b' (k - Br.length))) = _
    rw [cut_ge (Nat.le_refl _), hrs, Nat.add_sub_cancel_left]
  rw [hz, Nat.mul_add] at kk
  exact kk
/-- a method of the class -/
theorem q_callX {σ σ' : Mem} {y : MethodName} {cb : ByteArray} {nl n' d' idx : Nat} {ret' : Option FieldType} {as : (Nat → Nat) → List Value} {v : Value} (As rest : List Value) (hc : Con SX d' y cb nl ret' as σ (fun _ => some v) σ') (mv : MV RL idx RX8 y cb nl ret' n') (hd : d' < M.2.2.2.1) (has : as (xad (qX Y)) = .ref (xad (qX Y) 0) :: As) (hna : As.length = n') (hst : ∀ b, st b = As.reverse ++ .ref (xad (qX Y) 0) :: rest) (hr : (rest.map fun v => v.category).sum ≤ 8) (d : decode M.1 pc = .ok (.invokevirtual idx, 3)) (hq : pc + 3 = q) (k : JQ Y M (some σ') io B n q lv (fun _ => v :: rest)) : JQ Y M (some σ) io B n pc lv st := by
  subst hq
  intro hO hn b hio H locs ls hP hD hS hl
  have hPp := part_app hP
  have hDp := partD_app hD
  have hF := freeP (H0 := (xs (qX Y)).heap) hDp.1 hS.1 hO.2.2.2.2.2.2.2.2.2.1
  have hK := hO.2.2.2.2.2.2.2.1
  refine any_callA (mc := 0) (ms := 0) (r := some v) (A1 := va_A (wsOf SX (xk (qX Y)) (xad (qX Y)) σ) H.size) (P := fun t => va_P (xD (qX Y)) vwCl (wsOf SX (xk (qX Y)) (xad (qX Y)) σ') t.heap ∧ va_D (va_A (wsOf SX (xk (qX Y)) (xad (qX Y)) σ) H.size) (wsOf SX (xk (qX Y)) (xad (qX Y)) σ')) (rest := rest) (free := va_A (wsOf SX (xk (qX Y)) (xad (qX Y)) σ) H.size)
    (va_runV (As := As) (rest := rest) ⟨hO.1, hO.2.1, hO.2.2.2.1, hO.2.2.2.2.1, hO.2.2.2.2.2.1⟩ (hc (xl (qX Y)) (xD (qX Y)) (xk (qX Y)) (xad (qX Y)) H.size) (cwV n' hO.2.2.2.2.2.1 mv.1 rfl rfl rfl mv.2.1 (roomX hd mv.2.2 hO)) ⟨blindC, va_recv hK hPp.1 (ci := 7) (q0 := 0) rfl (ws_at (o := 0) (sc := (0, 7, [(2, 1), (2, 2), (2, 3), (2, 4), (2, 5), (2, 6), (2, 15), (2, 16), (2, 17), (1, 0), (0, 0), (0, 0), (0, 0)])) rfl), fun U hU hW => ⟨by rw [has], by rw [hU], by rw [hU]; exact hPp.1, va_K.moved hW.alike hK, hDp.1.weaken (fun _ _ _ _ => trivial), hO.2.2.2.2.2.2.2.2.1.warm hW⟩⟩ rfl hna hl.1 (hst b) (lv_room hr) d ⟨by have := hO.2.2.2.2.2.2.2.2.2.2.2.2.2.2.1; omega, by have := hO.2.2.2.2.2.2.2.2.2.2.2.2.2.2.2.1; omega⟩) hS hF hF (fun t H1 locs1 ht hPt hk hS1 => ?_)
  have hJ := join1 hP hD hk hF (by rw [← ht]; exact hPt.1) hPt.2
  exact k hO hn b hio H1 locs1 ls hJ.1 hJ.2 hS1 hl
/-- a static method of the law that has the class, over all arrays -/
theorem q_callL {σ σ' : Mem} {y : MethodName} {cb : ByteArray} {nl' n' d' idx : Nat} {rt : FieldType} {as : (Nat → Nat) → (Nat → Nat) → Nat → List Value} {C' : List AE} {v : Value} (As : (Nat → Nat) → List Value) (rest : (Nat → Nat) → List Value) (hc : ConQ .ireturn d' 0 y cb nl' (some rt) (qL Y) (qs Y) as B (some σ) (fun _ => v) C' (some σ')) (hl' : C'.length = B.length) (ms : MS RL idx y cb nl' (some rt) n') (hd : d' < M.2.2.2.1) (has : ∀ b, as b (xad (qX Y)) (qb Y) = As b) (hna : ∀ b, (As b).length = n') (hst : ∀ b, st b = (As b).reverse ++ rest b) (hr : ∀ b, ((rest b).map fun v => v.category).sum ≤ 8) (d : decode M.1 pc = .ok (.invokestatic idx, 3)) (hq : pc + 3 = q) (k : JQ Y M (some σ') io C' n q lv (fun b => v :: rest b)) : JQ Y M (some σ) io B n pc lv st := by
  subst hq
  intro hO hn b hio H locs ls hP hD hS hl
  have hF := freeP (H0 := (xs (qX Y)).heap) hD hS.1 hO.2.2.2.2.2.2.2.2.2.1
  have r1 := hO.2.2.2.2.2.2.2.2.2.2.2.2.2.2.1
  have r2 := hO.2.2.2.2.2.2.2.2.2.2.2.2.2.2.2.1
  refine any_callE (mc := 0) (ms := 12 * 0) (r := fun _ => some v) (A1 := va_A (wsQ (xk (qX Y)) (xad (qX Y)) (some σ) b B) H.size) (P := fun (b' : Nat → Nat) t => (∀ k, k < B.length → b' k = b k) ∧ va_P (xD (qX Y)) vwCl (wsQ (xk (qX Y)) (xad (qX Y)) (some σ') b' C') t.heap ∧ va_D (va_A (wsQ (xk (qX Y)) (xad (qX Y)) (some σ) b B) H.size) (wsQ (xk (qX Y)) (xad (qX Y)) (some σ') b' C')) (rest := rest b) (free := va_A (wsQ (xk (qX Y)) (xad (qX Y)) (some σ) b B) H.size)
    (va_runS (As := As b) (rest := rest b) ⟨hO.1, hO.2.1, hO.2.2.2.1, hO.2.2.2.2.1, hO.2.2.2.2.2.1⟩ (hc (xl (qX Y)) (xD (qX Y)) (xk (qX Y)) (xad (qX Y)) b (qb Y) H.size) (va_cwS n' hO.2.2.2.2.2.1 ms.1 rfl rfl rfl ms.2.1 (roomQ hd ms.2.2 hO)) ⟨blindQ, fun U hU hW => ⟨by rw [has], by rw [hU], by rw [hU]; exact hP, va_K.moved hW.alike hO.2.2.2.2.2.2.2.1, hD.weaken (fun _ _ _ _ => trivial), hO.2.2.2.2.2.2.2.2.1.warm hW, scr_now hO hS hU hW, Nat.lt_of_lt_of_le hO.2.2.2.2.2.2.2.2.2.2.2.1 hS.1, fun z => hO.2.2.2.2.2.2.2.2.2.2.2.2.1 (hF _ z)⟩⟩ rfl (hna b) hl.1 (hst b) (lv_room (hr b)) d ⟨by omega, by omega⟩) hS hF hF (fun b' t H1 locs1 ht hPt hk hS1 => ?_)
  have hw2 : wsQ (xk (qX Y)) (xad (qX Y)) (some σ') b' C' = wsQ (xk (qX Y)) (xad (qX Y)) (some σ') b C' := by unfold wsQ; rw [wsA_cong (fun k hk => hPt.1 k (by omega))]
  rw [hw2] at hPt
  exact k hO hn b hio H1 locs1 ls (by rw [← ht]; exact hPt.2.1) (hPt.2.2.weaken (fun _ _ _ h => hF _ h)) hS1 hl
end QQ

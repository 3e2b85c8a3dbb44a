/-! ===== THE ROWS OF J: an instruction each ===== -/
section JR
variable {X : CX} {S : List SC} {M : MD} {σ : Mem} {pc q : Nat} {lv lv2 : List (Nat × Value)} {st : List Value} {R : Type} {out : R}
theorem r_iconst {n : Int} {v : Int32} (d : decode M.1 pc = .ok (.iconst n, 1)) (hq : pc + 1 = q) (hv : Int32.ofInt n = v) (k : J X S M σ q lv (.int v :: st)) : J X S M σ pc lv st := by
  subst hq
  intro hO H locs ls hP hD hS hl
  exact lv_iconst hO.1 hO.2.1 d hv (k hO H locs ls hP hD hS hl)
theorem r_bipush {n : Int} {v : Int32} (d : decode M.1 pc = .ok (.bipush n, 2)) (hq : pc + 2 = q) (hv : (Int8.ofInt n).toInt32 = v) (k : J X S M σ q lv (.int v :: st)) : J X S M σ pc lv st := by
  subst hq
  intro hO H locs ls hP hD hS hl
  exact lv_bipush hO.1 hO.2.1 d hv (k hO H locs ls hP hD hS hl)
theorem r_sipush {n : Int} {v : Int32} (d : decode M.1 pc = .ok (.sipush n, 3)) (hq : pc + 3 = q) (hv : (Int16.ofInt n).toInt32 = v) (k : J X S M σ q lv (.int v :: st)) : J X S M σ pc lv st := by
  subst hq
  intro hO H locs ls hP hD hS hl
  exact lv_sipush hO.1 hO.2.1 d hv (k hO H locs ls hP hD hS hl)
theorem r_lconst {n : Fin 2} {v : Int64} (d : decode M.1 pc = .ok (.lconst n, 1)) (hq : pc + 1 = q) (hv : Int64.ofNat (n : Nat) = v) (k : J X S M σ q lv (.long v :: st)) : J X S M σ pc lv st := by
  subst hq
  intro hO H locs ls hP hD hS hl
  exact lv_lconst hO.1 hO.2.1 d hv (k hO H locs ls hP hD hS hl)
theorem r_ldc2 {i : Nat} {v : Int64} (d : decode M.1 pc = .ok (.ldc2_w i, 3)) (hq : pc + 3 = q) (hw : Jvm.Cond.constantLong M.2.1 i v ∈ BW) (k : J X S M σ q lv (.long v :: st)) : J X S M σ pc lv st := by
  subst hq
  intro hO H locs ls hP hD hS hl
  exact lv_ldc2 hO.1 hO.2.1 hO.2.2.2.2.1 (hO.2.2.2.2.2.1 _ hw) d (k hO H locs ls hP hD hS hl)
theorem r_null  (d : decode M.1 pc = .ok (.aconst_null, 1)) (hq : pc + 1 = q) (k : J X S M σ q lv (.null :: st)) : J X S M σ pc lv st := by
  subst hq
  intro hO H locs ls hP hD hS hl
  exact lv_null hO.1 hO.2.1 d (k hO H locs ls hP hD hS hl)
theorem r_iload_n (j : Nat) {n : Fin 4} {i : Nat} {x : Int32} (d : decode M.1 pc = .ok (.iload_n n, 1)) (hq : pc + 1 = q) (hi : (n : Nat) = i) (hj : lv[j]? = some (i, .int x)) (k : J X S M σ q lv (.int x :: st)) : J X S M σ pc lv st := by
  subst hq
  intro hO H locs ls hP hD hS hl
  exact lv_iload_n hO.1 hO.2.1 d hi (lv_at hl j hj) (k hO H locs ls hP hD hS hl)
theorem r_iload (j : Nat) {i : Nat} {x : Int32} (d : decode M.1 pc = .ok (.iload i, 2)) (hq : pc + 2 = q) (hj : lv[j]? = some (i, .int x)) (k : J X S M σ q lv (.int x :: st)) : J X S M σ pc lv st := by
  subst hq
  intro hO H locs ls hP hD hS hl
  exact lv_iload hO.1 hO.2.1 d (lv_at hl j hj) (k hO H locs ls hP hD hS hl)
theorem r_lload_n (j : Nat) {n : Fin 4} {i : Nat} {x : Int64} (d : decode M.1 pc = .ok (.lload_n n, 1)) (hq : pc + 1 = q) (hi : (n : Nat) = i) (hj : lv[j]? = some (i, .long x)) (k : J X S M σ q lv (.long x :: st)) : J X S M σ pc lv st := by
  subst hq
  intro hO H locs ls hP hD hS hl
  exact lv_lload_n hO.1 hO.2.1 d hi (lv_at hl j hj) (k hO H locs ls hP hD hS hl)
theorem r_lload (j : Nat) {i : Nat} {x : Int64} (d : decode M.1 pc = .ok (.lload i, 2)) (hq : pc + 2 = q) (hj : lv[j]? = some (i, .long x)) (k : J X S M σ q lv (.long x :: st)) : J X S M σ pc lv st := by
  subst hq
  intro hO H locs ls hP hD hS hl
  exact lv_lload hO.1 hO.2.1 d (lv_at hl j hj) (k hO H locs ls hP hD hS hl)
theorem r_aload_n (j : Nat) {n : Fin 4} {i : Nat} {x : Nat} (d : decode M.1 pc = .ok (.aload_n n, 1)) (hq : pc + 1 = q) (hi : (n : Nat) = i) (hj : lv[j]? = some (i, .ref x)) (k : J X S M σ q lv (.ref x :: st)) : J X S M σ pc lv st := by
  subst hq
  intro hO H locs ls hP hD hS hl
  exact lv_aload_n hO.1 hO.2.1 d hi (lv_at hl j hj) (k hO H locs ls hP hD hS hl)
theorem r_aload (j : Nat) {i : Nat} {x : Nat} (d : decode M.1 pc = .ok (.aload i, 2)) (hq : pc + 2 = q) (hj : lv[j]? = some (i, .ref x)) (k : J X S M σ q lv (.ref x :: st)) : J X S M σ pc lv st := by
  subst hq
  intro hO H locs ls hP hD hS hl
  exact lv_aload hO.1 hO.2.1 d (lv_at hl j hj) (k hO H locs ls hP hD hS hl)
theorem r_istore_n (lv2 : Int32 → List (Nat × Value)) {i : Nat} {n : Fin 4} {x : Int32} {f : Int32 → Option R} (d : decode M.1 pc = .ok (.istore_n n, 1)) (hq : pc + 1 = q) (hi : (n : Nat) = i) (hn : i < M.2.2.1) (hv : ∀ y, (i, .int y) :: lv.filter (fun q => !(q.1 == i) && !(q.1 + 1 == i && q.2.category == 2)) = lv2 y) (h : nm x f = some out) (k : ∀ y, f y = some out → J X S M σ q (lv2 y) st) : J X S M σ pc lv (.int x :: st) := by
  subst hq
  intro hO H locs ls hP hD hS hl
  exact lv_istore_n (lv' := lv2 x) hO.1 hO.2.1 d hi hl hn (hv x) (fun ls hl => k x h hO H locs ls hP hD hS hl)
theorem r_istoreV_n (lv2 : List (Nat × Value)) {i : Nat} {n : Fin 4} {x : Int32} (d : decode M.1 pc = .ok (.istore_n n, 1)) (hq : pc + 1 = q) (hi : (n : Nat) = i) (hn : i < M.2.2.1) (hv : (i, .int x) :: lv.filter (fun q => !(q.1 == i) && !(q.1 + 1 == i && q.2.category == 2)) = lv2) (k : J X S M σ q lv2 st) : J X S M σ pc lv (.int x :: st) := by
  subst hq
  intro hO H locs ls hP hD hS hl
  exact lv_istore_n (lv' := lv2) hO.1 hO.2.1 d hi hl hn hv (fun ls hl => k hO H locs ls hP hD hS hl)
theorem r_istore (lv2 : Int32 → List (Nat × Value)) {i : Nat} {x : Int32} {f : Int32 → Option R} (d : decode M.1 pc = .ok (.istore i, 2)) (hq : pc + 2 = q) (hn : i < M.2.2.1) (hv : ∀ y, (i, .int y) :: lv.filter (fun q => !(q.1 == i) && !(q.1 + 1 == i && q.2.category == 2)) = lv2 y) (h : nm x f = some out) (k : ∀ y, f y = some out → J X S M σ q (lv2 y) st) : J X S M σ pc lv (.int x :: st) := by
  subst hq
  intro hO H locs ls hP hD hS hl
  exact lv_istore (lv' := lv2 x) hO.1 hO.2.1 d hl hn (hv x) (fun ls hl => k x h hO H locs ls hP hD hS hl)
theorem r_istoreV (lv2 : List (Nat × Value)) {i : Nat} {x : Int32} (d : decode M.1 pc = .ok (.istore i, 2)) (hq : pc + 2 = q) (hn : i < M.2.2.1) (hv : (i, .int x) :: lv.filter (fun q => !(q.1 == i) && !(q.1 + 1 == i && q.2.category == 2)) = lv2) (k : J X S M σ q lv2 st) : J X S M σ pc lv (.int x :: st) := by
  subst hq
  intro hO H locs ls hP hD hS hl
  exact lv_istore (lv' := lv2) hO.1 hO.2.1 d hl hn hv (fun ls hl => k hO H locs ls hP hD hS hl)
theorem r_lstore_n (lv2 : Int64 → List (Nat × Value)) {i : Nat} {n : Fin 4} {x : Int64} {f : Int64 → Option R} (d : decode M.1 pc = .ok (.lstore_n n, 1)) (hq : pc + 1 = q) (hi : (n : Nat) = i) (hn : i + 1 < M.2.2.1) (hv : ∀ y, (i, .long y) :: lv.filter (fun q => !(q.1 == i) && (!(q.1 == i + 1) && !(q.1 + 1 == i && q.2.category == 2))) = lv2 y) (h : nm x f = some out) (k : ∀ y, f y = some out → J X S M σ q (lv2 y) st) : J X S M σ pc lv (.long x :: st) := by
  subst hq
  intro hO H locs ls hP hD hS hl
  exact lv_lstore_n (lv' := lv2 x) hO.1 hO.2.1 d hi hl hn (hv x) (fun ls hl => k x h hO H locs ls hP hD hS hl)
theorem r_lstoreV_n (lv2 : List (Nat × Value)) {i : Nat} {n : Fin 4} {x : Int64} (d : decode M.1 pc = .ok (.lstore_n n, 1)) (hq : pc + 1 = q) (hi : (n : Nat) = i) (hn : i + 1 < M.2.2.1) (hv : (i, .long x) :: lv.filter (fun q => !(q.1 == i) && (!(q.1 == i + 1) && !(q.1 + 1 == i && q.2.category == 2))) = lv2) (k : J X S M σ q lv2 st) : J X S M σ pc lv (.long x :: st) := by
  subst hq
  intro hO H locs ls hP hD hS hl
  exact lv_lstore_n (lv' := lv2) hO.1 hO.2.1 d hi hl hn hv (fun ls hl => k hO H locs ls hP hD hS hl)
theorem r_lstore (lv2 : Int64 → List (Nat × Value)) {i : Nat} {x : Int64} {f : Int64 → Option R} (d : decode M.1 pc = .ok (.lstore i, 2)) (hq : pc + 2 = q) (hn : i + 1 < M.2.2.1) (hv : ∀ y, (i, .long y) :: lv.filter (fun q => !(q.1 == i) && (!(q.1 == i + 1) && !(q.1 + 1 == i && q.2.category == 2))) = lv2 y) (h : nm x f = some out) (k : ∀ y, f y = some out → J X S M σ q (lv2 y) st) : J X S M σ pc lv (.long x :: st) := by
  subst hq
  intro hO H locs ls hP hD hS hl
  exact lv_lstore (lv' := lv2 x) hO.1 hO.2.1 d hl hn (hv x) (fun ls hl => k x h hO H locs ls hP hD hS hl)
theorem r_lstoreV (lv2 : List (Nat × Value)) {i : Nat} {x : Int64} (d : decode M.1 pc = .ok (.lstore i, 2)) (hq : pc + 2 = q) (hn : i + 1 < M.2.2.1) (hv : (i, .long x) :: lv.filter (fun q => !(q.1 == i) && (!(q.1 == i + 1) && !(q.1 + 1 == i && q.2.category == 2))) = lv2) (k : J X S M σ q lv2 st) : J X S M σ pc lv (.long x :: st) := by
  subst hq
  intro hO H locs ls hP hD hS hl
  exact lv_lstore (lv' := lv2) hO.1 hO.2.1 d hl hn hv (fun ls hl => k hO H locs ls hP hD hS hl)
theorem r_astore_n (lv2 : List (Nat × Value)) {i : Nat} {n : Fin 4} {x : Nat} (d : decode M.1 pc = .ok (.astore_n n, 1)) (hq : pc + 1 = q) (hi : (n : Nat) = i) (hn : i < M.2.2.1) (hv : (i, Value.ref x) :: lv.filter (fun q => !(q.1 == i) && !(q.1 + 1 == i && q.2.category == 2)) = lv2) (k : J X S M σ q lv2 st) : J X S M σ pc lv (.ref x :: st) := by
  subst hq
  intro hO H locs ls hP hD hS hl
  exact lv_astore_n (lv' := lv2) hO.1 hO.2.1 d hi hl hn hv (fun ls hl => k hO H locs ls hP hD hS hl)
theorem r_astoreN_n (lv2 : List (Nat × Value)) {i : Nat} {n : Fin 4} (d : decode M.1 pc = .ok (.astore_n n, 1)) (hq : pc + 1 = q) (hi : (n : Nat) = i) (hn : i < M.2.2.1) (hv : (i, Value.null) :: lv.filter (fun q => !(q.1 == i) && !(q.1 + 1 == i && q.2.category == 2)) = lv2) (k : J X S M σ q lv2 st) : J X S M σ pc lv (.null :: st) := by
  subst hq
  intro hO H locs ls hP hD hS hl
  exact lv_astore_nN (lv' := lv2) hO.1 hO.2.1 d hi hl hn hv (fun ls hl => k hO H locs ls hP hD hS hl)
theorem r_astore (lv2 : List (Nat × Value)) {i : Nat} {x : Nat} (d : decode M.1 pc = .ok (.astore i, 2)) (hq : pc + 2 = q) (hn : i < M.2.2.1) (hv : (i, Value.ref x) :: lv.filter (fun q => !(q.1 == i) && !(q.1 + 1 == i && q.2.category == 2)) = lv2) (k : J X S M σ q lv2 st) : J X S M σ pc lv (.ref x :: st) := by
  subst hq
  intro hO H locs ls hP hD hS hl
  exact lv_astore (lv' := lv2) hO.1 hO.2.1 d hl hn hv (fun ls hl => k hO H locs ls hP hD hS hl)
theorem r_astoreN (lv2 : List (Nat × Value)) {i : Nat} (d : decode M.1 pc = .ok (.astore i, 2)) (hq : pc + 2 = q) (hn : i < M.2.2.1) (hv : (i, Value.null) :: lv.filter (fun q => !(q.1 == i) && !(q.1 + 1 == i && q.2.category == 2)) = lv2) (k : J X S M σ q lv2 st) : J X S M σ pc lv (.null :: st) := by
  subst hq
  intro hO H locs ls hP hD hS hl
  exact lv_astoreN (lv' := lv2) hO.1 hO.2.1 d hl hn hv (fun ls hl => k hO H locs ls hP hD hS hl)
theorem r_aloadN_n (j : Nat) {i : Nat} {n : Fin 4} (d : decode M.1 pc = .ok (.aload_n n, 1)) (hq : pc + 1 = q) (hi : (n : Nat) = i) (hj : lv[j]? = some (i, .null)) (k : J X S M σ q lv (.null :: st)) : J X S M σ pc lv st := by
  subst hq
  intro hO H locs ls hP hD hS hl
  exact lv_aload_nN hO.1 hO.2.1 d hi (lv_at hl j hj) (k hO H locs ls hP hD hS hl)
theorem r_aloadN (j : Nat) {i : Nat} (d : decode M.1 pc = .ok (.aload i, 2)) (hq : pc + 2 = q) (hj : lv[j]? = some (i, .null)) (k : J X S M σ q lv (.null :: st)) : J X S M σ pc lv st := by
  subst hq
  intro hO H locs ls hP hD hS hl
  exact lv_aloadN hO.1 hO.2.1 d (lv_at hl j hj) (k hO H locs ls hP hD hS hl)
theorem r_iinc (j : Nat) (lv2 : Int32 → List (Nat × Value)) {i : Nat} {n : Int} {c x : Int32} {f : Int32 → Option R} (d : decode M.1 pc = .ok (.iinc i n, 3)) (hq : pc + 3 = q) (hj : lv[j]? = some (i, .int x)) (hc : Int32.ofInt n = c) (hn : i < M.2.2.1) (hv : ∀ y, (i, Value.int y) :: lv.filter (fun q => !(q.1 == i) && !(q.1 + 1 == i && q.2.category == 2)) = lv2 y) (h : nm (x + c) f = some out) (k : ∀ y, f y = some out → J X S M σ q (lv2 y) st) : J X S M σ pc lv st := by
  subst hq
  intro hO H locs ls hP hD hS hl
  exact lv_iinc (v := x + c) (lv' := lv2 (x + c)) hO.1 hO.2.1 d hl hj (by rw [hc]) hn (hv _) (fun ls hl => k _ h hO H locs ls hP hD hS hl)
theorem r_iadd {x y : Int32} (d : decode M.1 pc = .ok (.iadd, 1)) (hq : pc + 1 = q) (k : J X S M σ q lv (.int (x + y) :: st)) : J X S M σ pc lv (.int y :: .int x :: st) := by
  subst hq
  intro hO H locs ls hP hD hS hl
  exact lv_iadd hO.1 hO.2.1 d (k hO H locs ls hP hD hS hl)
theorem r_isub {x y : Int32} (d : decode M.1 pc = .ok (.isub, 1)) (hq : pc + 1 = q) (k : J X S M σ q lv (.int (x - y) :: st)) : J X S M σ pc lv (.int y :: .int x :: st) := by
  subst hq
  intro hO H locs ls hP hD hS hl
  exact lv_isub hO.1 hO.2.1 d (k hO H locs ls hP hD hS hl)
theorem r_imul {x y : Int32} (d : decode M.1 pc = .ok (.imul, 1)) (hq : pc + 1 = q) (k : J X S M σ q lv (.int (x * y) :: st)) : J X S M σ pc lv (.int y :: .int x :: st) := by
  subst hq
  intro hO H locs ls hP hD hS hl
  exact lv_imul hO.1 hO.2.1 d (k hO H locs ls hP hD hS hl)
theorem r_iand {x y : Int32} (d : decode M.1 pc = .ok (.iand, 1)) (hq : pc + 1 = q) (k : J X S M σ q lv (.int (x &&& y) :: st)) : J X S M σ pc lv (.int y :: .int x :: st) := by
  subst hq
  intro hO H locs ls hP hD hS hl
  exact lv_iand hO.1 hO.2.1 d (k hO H locs ls hP hD hS hl)
theorem r_ior {x y : Int32} (d : decode M.1 pc = .ok (.ior, 1)) (hq : pc + 1 = q) (k : J X S M σ q lv (.int (x ||| y) :: st)) : J X S M σ pc lv (.int y :: .int x :: st) := by
  subst hq
  intro hO H locs ls hP hD hS hl
  exact lv_ior hO.1 hO.2.1 d (k hO H locs ls hP hD hS hl)
theorem r_ixor {x y : Int32} (d : decode M.1 pc = .ok (.ixor, 1)) (hq : pc + 1 = q) (k : J X S M σ q lv (.int (x ^^^ y) :: st)) : J X S M σ pc lv (.int y :: .int x :: st) := by
  subst hq
  intro hO H locs ls hP hD hS hl
  exact lv_ixor hO.1 hO.2.1 d (k hO H locs ls hP hD hS hl)
theorem r_ishl {x y : Int32} (d : decode M.1 pc = .ok (.ishl, 1)) (hq : pc + 1 = q) (k : J X S M σ q lv (.int (x <<< (y &&& 31)) :: st)) : J X S M σ pc lv (.int y :: .int x :: st) := by
  subst hq
  intro hO H locs ls hP hD hS hl
  exact lv_ishl hO.1 hO.2.1 d (k hO H locs ls hP hD hS hl)
theorem r_ishr {x y : Int32} (d : decode M.1 pc = .ok (.ishr, 1)) (hq : pc + 1 = q) (k : J X S M σ q lv (.int (x >>> (y &&& 31)) :: st)) : J X S M σ pc lv (.int y :: .int x :: st) := by
  subst hq
  intro hO H locs ls hP hD hS hl
  exact lv_ishr hO.1 hO.2.1 d (k hO H locs ls hP hD hS hl)
theorem r_ladd {x y : Int64} (d : decode M.1 pc = .ok (.ladd, 1)) (hq : pc + 1 = q) (k : J X S M σ q lv (.long (x + y) :: st)) : J X S M σ pc lv (.long y :: .long x :: st) := by
  subst hq
  intro hO H locs ls hP hD hS hl
  exact lv_ladd hO.1 hO.2.1 d (k hO H locs ls hP hD hS hl)
theorem r_lsub {x y : Int64} (d : decode M.1 pc = .ok (.lsub, 1)) (hq : pc + 1 = q) (k : J X S M σ q lv (.long (x - y) :: st)) : J X S M σ pc lv (.long y :: .long x :: st) := by
  subst hq
  intro hO H locs ls hP hD hS hl
  exact lv_lsub hO.1 hO.2.1 d (k hO H locs ls hP hD hS hl)
theorem r_lmul {x y : Int64} (d : decode M.1 pc = .ok (.lmul, 1)) (hq : pc + 1 = q) (k : J X S M σ q lv (.long (x * y) :: st)) : J X S M σ pc lv (.long y :: .long x :: st) := by
  subst hq
  intro hO H locs ls hP hD hS hl
  exact lv_lmul hO.1 hO.2.1 d (k hO H locs ls hP hD hS hl)
theorem r_land {x y : Int64} (d : decode M.1 pc = .ok (.land, 1)) (hq : pc + 1 = q) (k : J X S M σ q lv (.long (x &&& y) :: st)) : J X S M σ pc lv (.long y :: .long x :: st) := by
  subst hq
  intro hO H locs ls hP hD hS hl
  exact lv_land hO.1 hO.2.1 d (k hO H locs ls hP hD hS hl)
theorem r_lor {x y : Int64} (d : decode M.1 pc = .ok (.lor, 1)) (hq : pc + 1 = q) (k : J X S M σ q lv (.long (x ||| y) :: st)) : J X S M σ pc lv (.long y :: .long x :: st) := by
  subst hq
  intro hO H locs ls hP hD hS hl
  exact lv_lor hO.1 hO.2.1 d (k hO H locs ls hP hD hS hl)
theorem r_lxor {x y : Int64} (d : decode M.1 pc = .ok (.lxor, 1)) (hq : pc + 1 = q) (k : J X S M σ q lv (.long (x ^^^ y) :: st)) : J X S M σ pc lv (.long y :: .long x :: st) := by
  subst hq
  intro hO H locs ls hP hD hS hl
  exact lv_lxor hO.1 hO.2.1 d (k hO H locs ls hP hD hS hl)
theorem r_iushr {x y : Int32} (d : decode M.1 pc = .ok (.iushr, 1)) (hq : pc + 1 = q) (k : J X S M σ q lv (.int ((x.toUInt32 >>> (y.toUInt32 &&& Int32.toUInt32 31)).toInt32) :: st)) : J X S M σ pc lv (.int y :: .int x :: st) := by
  subst hq
  intro hO H locs ls hP hD hS hl
  exact lv_iushr hO.1 hO.2.1 d rfl (k hO H locs ls hP hD hS hl)
theorem r_lushr {x : Int64} {y : Int32} (d : decode M.1 pc = .ok (.lushr, 1)) (hq : pc + 1 = q) (k : J X S M σ q lv (.long ((x.toUInt64 >>> (y.toInt64.toUInt64 &&& Int64.toUInt64 63)).toInt64) :: st)) : J X S M σ pc lv (.int y :: .long x :: st) := by
  subst hq
  intro hO H locs ls hP hD hS hl
  exact lv_lushr hO.1 hO.2.1 d rfl (k hO H locs ls hP hD hS hl)
theorem r_lshl {x : Int64} {y : Int32} (d : decode M.1 pc = .ok (.lshl, 1)) (hq : pc + 1 = q) (k : J X S M σ q lv (.long (x <<< (y.toInt64 &&& 63)) :: st)) : J X S M σ pc lv (.int y :: .long x :: st) := by
  subst hq
  intro hO H locs ls hP hD hS hl
  exact lv_lshl hO.1 hO.2.1 d rfl (k hO H locs ls hP hD hS hl)
theorem r_lshr {x : Int64} {y : Int32} (d : decode M.1 pc = .ok (.lshr, 1)) (hq : pc + 1 = q) (k : J X S M σ q lv (.long (x >>> (y.toInt64 &&& 63)) :: st)) : J X S M σ pc lv (.int y :: .long x :: st) := by
  subst hq
  intro hO H locs ls hP hD hS hl
  exact lv_lshr hO.1 hO.2.1 d rfl (k hO H locs ls hP hD hS hl)
theorem r_i2l {x : Int32} (d : decode M.1 pc = .ok (.i2l, 1)) (hq : pc + 1 = q) (k : J X S M σ q lv (.long x.toInt64 :: st)) : J X S M σ pc lv (.int x :: st) := by
  subst hq
  intro hO H locs ls hP hD hS hl
  exact lv_i2l hO.1 hO.2.1 d rfl (k hO H locs ls hP hD hS hl)
theorem r_l2i {x : Int64} (d : decode M.1 pc = .ok (.l2i, 1)) (hq : pc + 1 = q) (k : J X S M σ q lv (.int x.toInt32 :: st)) : J X S M σ pc lv (.long x :: st) := by
  subst hq
  intro hO H locs ls hP hD hS hl
  exact lv_l2i hO.1 hO.2.1 d rfl (k hO H locs ls hP hD hS hl)
theorem r_i2b {x : Int32} (d : decode M.1 pc = .ok (.i2b, 1)) (hq : pc + 1 = q) (k : J X S M σ q lv (.int x.toInt8.toInt32 :: st)) : J X S M σ pc lv (.int x :: st) := by
  subst hq
  intro hO H locs ls hP hD hS hl
  exact lv_i2b hO.1 hO.2.1 d rfl (k hO H locs ls hP hD hS hl)
theorem r_i2s {x : Int32} (d : decode M.1 pc = .ok (.i2s, 1)) (hq : pc + 1 = q) (k : J X S M σ q lv (.int x.toInt16.toInt32 :: st)) : J X S M σ pc lv (.int x :: st) := by
  subst hq
  intro hO H locs ls hP hD hS hl
  exact lv_i2s hO.1 hO.2.1 d rfl (k hO H locs ls hP hD hS hl)
theorem r_lcmp {x y : Int64} (d : decode M.1 pc = .ok (.lcmp, 1)) (hq : pc + 1 = q) (k : J X S M σ q lv (.int (lg_cmp x y) :: st)) : J X S M σ pc lv (.long y :: .long x :: st) := by
  subst hq
  intro hO H locs ls hP hD hS hl
  exact W.lcmp hO.1 hO.2.1 d (k hO H locs ls hP hD hS hl)
theorem r_dup {v : Value} (d : decode M.1 pc = .ok (.dup, 1)) (hq : pc + 1 = q) (hc : v.category = 1) (k : J X S M σ q lv (v :: v :: st)) : J X S M σ pc lv (v :: st) := by
  subst hq
  intro hO H locs ls hP hD hS hl
  exact lv_dup hO.1 hO.2.1 d hc (k hO H locs ls hP hD hS hl)
theorem r_dup2 {v w : Value} (d : decode M.1 pc = .ok (.dup2, 1)) (hq : pc + 1 = q) (hc : v.category = 1) (hd : w.category = 1) (k : J X S M σ q lv (v :: w :: v :: w :: st)) : J X S M σ pc lv (v :: w :: st) := by
  subst hq
  intro hO H locs ls hP hD hS hl
  exact lv_dup2_11 hO.1 hO.2.1 d hc hd (k hO H locs ls hP hD hS hl)
theorem r_pop {v : Value} (d : decode M.1 pc = .ok (.pop, 1)) (hq : pc + 1 = q) (hc : v.category = 1) (k : J X S M σ q lv st) : J X S M σ pc lv (v :: st) := by
  subst hq
  intro hO H locs ls hP hD hS hl
  exact lv_pop hO.1 hO.2.1 d hc (k hO H locs ls hP hD hS hl)
theorem r_idiv {x y : Int32} {f : Option R} (d : decode M.1 pc = .ok (.idiv, 1)) (hq : pc + 1 = q) (h : dzI y f = some out) (k : f = some out → J X S M σ q lv (.int (x / y) :: st)) : J X S M σ pc lv (.int y :: .int x :: st) := by
  subst hq
  unfold dzI at h
  by_cases hy : y = 0
  · rw [if_pos hy] at h; cases h
  · rw [if_neg hy] at h
    intro hO H locs ls hP hD hS hl
    exact lv_idiv hO.1 hO.2.1 d hy (k h hO H locs ls hP hD hS hl)
theorem r_irem {x y : Int32} {f : Option R} (d : decode M.1 pc = .ok (.irem, 1)) (hq : pc + 1 = q) (h : dzI y f = some out) (k : f = some out → J X S M σ q lv (.int (x - x / y * y) :: st)) : J X S M σ pc lv (.int y :: .int x :: st) := by
  subst hq
  unfold dzI at h
  by_cases hy : y = 0
  · rw [if_pos hy] at h; cases h
  · rw [if_neg hy] at h
    intro hO H locs ls hP hD hS hl
    exact lv_irem hO.1 hO.2.1 d hy (k h hO H locs ls hP hD hS hl)
theorem r_ldiv {x y : Int64} {f : Option R} (d : decode M.1 pc = .ok (.ldiv, 1)) (hq : pc + 1 = q) (h : dzL y f = some out) (k : f = some out → J X S M σ q lv (.long (x / y) :: st)) : J X S M σ pc lv (.long y :: .long x :: st) := by
  subst hq
  unfold dzL at h
  by_cases hy : y = 0
  · rw [if_pos hy] at h; cases h
  · rw [if_neg hy] at h
    intro hO H locs ls hP hD hS hl
    exact lv_ldiv hO.1 hO.2.1 d hy (k h hO H locs ls hP hD hS hl)
theorem r_lrem {x y : Int64} {f : Option R} (d : decode M.1 pc = .ok (.lrem, 1)) (hq : pc + 1 = q) (h : dzL y f = some out) (k : f = some out → J X S M σ q lv (.long (x - x / y * y) :: st)) : J X S M σ pc lv (.long y :: .long x :: st) := by
  subst hq
  unfold dzL at h
  by_cases hy : y = 0
  · rw [if_pos hy] at h; cases h
  · rw [if_neg hy] at h
    intro hO H locs ls hP hD hS hl
    exact lv_lrem hO.1 hO.2.1 d hy (k h hO H locs ls hP hD hS hl)
theorem r_if_eq {x : Int32} {off : Int} {tgt : Nat} {dc : Decidable (x = 0)} {f g : Option R} (d : decode M.1 pc = .ok (.ifCond .eq off, 3)) (ht : (pc : Int) + off = (tgt : Int)) (hq : pc + 3 = q) (h : (if x = 0 then f else g) = some out) (kt : x = 0 → f = some out → J X S M σ tgt lv st) (kf : ¬ x = 0 → g = some out → J X S M σ q lv st) : J X S M σ pc lv (.int x :: st) := by
  subst hq
  intro hO H locs ls hP hD hS hl
  exact lv_if_eq hO.1 hO.2.1 d ht (fun c0 => kt c0 (by rw [if_pos c0] at h; exact h) hO H locs ls hP hD hS hl) (fun c0 => kf c0 (by rw [if_neg c0] at h; exact h) hO H locs ls hP hD hS hl)
theorem r_icmp_eq {x y : Int32} {off : Int} {tgt : Nat} {dc : Decidable (x = y)} {f g : Option R} (d : decode M.1 pc = .ok (.if_icmp .eq off, 3)) (ht : (pc : Int) + off = (tgt : Int)) (hq : pc + 3 = q) (h : (if x = y then f else g) = some out) (kt : x = y → f = some out → J X S M σ tgt lv st) (kf : ¬ x = y → g = some out → J X S M σ q lv st) : J X S M σ pc lv (.int y :: .int x :: st) := by
  subst hq
  intro hO H locs ls hP hD hS hl
  exact lv_icmp_eq hO.1 hO.2.1 d ht (fun c0 => kt c0 (by rw [if_pos c0] at h; exact h) hO H locs ls hP hD hS hl) (fun c0 => kf c0 (by rw [if_neg c0] at h; exact h) hO H locs ls hP hD hS hl)
theorem r_if_ne {x : Int32} {off : Int} {tgt : Nat} {dc : Decidable (x = 0)} {f g : Option R} (d : decode M.1 pc = .ok (.ifCond .ne off, 3)) (ht : (pc : Int) + off = (tgt : Int)) (hq : pc + 3 = q) (h : (if x = 0 then g else f) = some out) (kt : ¬ x = 0 → f = some out → J X S M σ tgt lv st) (kf : x = 0 → g = some out → J X S M σ q lv st) : J X S M σ pc lv (.int x :: st) := by
  subst hq
  intro hO H locs ls hP hD hS hl
  exact lv_if_ne hO.1 hO.2.1 d ht (fun c0 => kt c0 (by rw [if_neg c0] at h; exact h) hO H locs ls hP hD hS hl) (fun c0 => kf c0 (by rw [if_pos c0] at h; exact h) hO H locs ls hP hD hS hl)
theorem r_icmp_ne {x y : Int32} {off : Int} {tgt : Nat} {dc : Decidable (x = y)} {f g : Option R} (d : decode M.1 pc = .ok (.if_icmp .ne off, 3)) (ht : (pc : Int) + off = (tgt : Int)) (hq : pc + 3 = q) (h : (if x = y then g else f) = some out) (kt : ¬ x = y → f = some out → J X S M σ tgt lv st) (kf : x = y → g = some out → J X S M σ q lv st) : J X S M σ pc lv (.int y :: .int x :: st) := by
  subst hq
  intro hO H locs ls hP hD hS hl
  exact lv_icmp_ne hO.1 hO.2.1 d ht (fun c0 => kt c0 (by rw [if_neg c0] at h; exact h) hO H locs ls hP hD hS hl) (fun c0 => kf c0 (by rw [if_pos c0] at h; exact h) hO H locs ls hP hD hS hl)
theorem r_if_lt {x : Int32} {off : Int} {tgt : Nat} {dc : Decidable (x < 0)} {f g : Option R} (d : decode M.1 pc = .ok (.ifCond .lt off, 3)) (ht : (pc : Int) + off = (tgt : Int)) (hq : pc + 3 = q) (h : (if x < 0 then f else g) = some out) (kt : x < 0 → f = some out → J X S M σ tgt lv st) (kf : ¬ x < 0 → g = some out → J X S M σ q lv st) : J X S M σ pc lv (.int x :: st) := by
  subst hq
  intro hO H locs ls hP hD hS hl
  exact lv_if_lt hO.1 hO.2.1 d ht (fun c0 => kt c0 (by rw [if_pos c0] at h; exact h) hO H locs ls hP hD hS hl) (fun c0 => kf c0 (by rw [if_neg c0] at h; exact h) hO H locs ls hP hD hS hl)
theorem r_icmp_lt {x y : Int32} {off : Int} {tgt : Nat} {dc : Decidable (x < y)} {f g : Option R} (d : decode M.1 pc = .ok (.if_icmp .lt off, 3)) (ht : (pc : Int) + off = (tgt : Int)) (hq : pc + 3 = q) (h : (if x < y then f else g) = some out) (kt : x < y → f = some out → J X S M σ tgt lv st) (kf : ¬ x < y → g = some out → J X S M σ q lv st) : J X S M σ pc lv (.int y :: .int x :: st) := by
  subst hq
  intro hO H locs ls hP hD hS hl
  exact lv_icmp_lt hO.1 hO.2.1 d ht (fun c0 => kt c0 (by rw [if_pos c0] at h; exact h) hO H locs ls hP hD hS hl) (fun c0 => kf c0 (by rw [if_neg c0] at h; exact h) hO H locs ls hP hD hS hl)
theorem r_if_ge {x : Int32} {off : Int} {tgt : Nat} {dc : Decidable (0 ≤ x)} {f g : Option R} (d : decode M.1 pc = .ok (.ifCond .ge off, 3)) (ht : (pc : Int) + off = (tgt : Int)) (hq : pc + 3 = q) (h : (if 0 ≤ x then f else g) = some out) (kt : 0 ≤ x → f = some out → J X S M σ tgt lv st) (kf : ¬ 0 ≤ x → g = some out → J X S M σ q lv st) : J X S M σ pc lv (.int x :: st) := by
  subst hq
  intro hO H locs ls hP hD hS hl
  exact lv_if_ge hO.1 hO.2.1 d ht (fun c0 => kt c0 (by rw [if_pos c0] at h; exact h) hO H locs ls hP hD hS hl) (fun c0 => kf c0 (by rw [if_neg c0] at h; exact h) hO H locs ls hP hD hS hl)
theorem r_icmp_ge {x y : Int32} {off : Int} {tgt : Nat} {dc : Decidable (y ≤ x)} {f g : Option R} (d : decode M.1 pc = .ok (.if_icmp .ge off, 3)) (ht : (pc : Int) + off = (tgt : Int)) (hq : pc + 3 = q) (h : (if y ≤ x then f else g) = some out) (kt : y ≤ x → f = some out → J X S M σ tgt lv st) (kf : ¬ y ≤ x → g = some out → J X S M σ q lv st) : J X S M σ pc lv (.int y :: .int x :: st) := by
  subst hq
  intro hO H locs ls hP hD hS hl
  exact lv_icmp_ge hO.1 hO.2.1 d ht (fun c0 => kt c0 (by rw [if_pos c0] at h; exact h) hO H locs ls hP hD hS hl) (fun c0 => kf c0 (by rw [if_neg c0] at h; exact h) hO H locs ls hP hD hS hl)
theorem r_if_gt {x : Int32} {off : Int} {tgt : Nat} {dc : Decidable (0 < x)} {f g : Option R} (d : decode M.1 pc = .ok (.ifCond .gt off, 3)) (ht : (pc : Int) + off = (tgt : Int)) (hq : pc + 3 = q) (h : (if 0 < x then f else g) = some out) (kt : 0 < x → f = some out → J X S M σ tgt lv st) (kf : ¬ 0 < x → g = some out → J X S M σ q lv st) : J X S M σ pc lv (.int x :: st) := by
  subst hq
  intro hO H locs ls hP hD hS hl
  exact lv_if_gt hO.1 hO.2.1 d ht (fun c0 => kt c0 (by rw [if_pos c0] at h; exact h) hO H locs ls hP hD hS hl) (fun c0 => kf c0 (by rw [if_neg c0] at h; exact h) hO H locs ls hP hD hS hl)
theorem r_icmp_gt {x y : Int32} {off : Int} {tgt : Nat} {dc : Decidable (y < x)} {f g : Option R} (d : decode M.1 pc = .ok (.if_icmp .gt off, 3)) (ht : (pc : Int) + off = (tgt : Int)) (hq : pc + 3 = q) (h : (if y < x then f else g) = some out) (kt : y < x → f = some out → J X S M σ tgt lv st) (kf : ¬ y < x → g = some out → J X S M σ q lv st) : J X S M σ pc lv (.int y :: .int x :: st) := by
  subst hq
  intro hO H locs ls hP hD hS hl
  exact lv_icmp_gt hO.1 hO.2.1 d ht (fun c0 => kt c0 (by rw [if_pos c0] at h; exact h) hO H locs ls hP hD hS hl) (fun c0 => kf c0 (by rw [if_neg c0] at h; exact h) hO H locs ls hP hD hS hl)
theorem r_if_le {x : Int32} {off : Int} {tgt : Nat} {dc : Decidable (x ≤ 0)} {f g : Option R} (d : decode M.1 pc = .ok (.ifCond .le off, 3)) (ht : (pc : Int) + off = (tgt : Int)) (hq : pc + 3 = q) (h : (if x ≤ 0 then f else g) = some out) (kt : x ≤ 0 → f = some out → J X S M σ tgt lv st) (kf : ¬ x ≤ 0 → g = some out → J X S M σ q lv st) : J X S M σ pc lv (.int x :: st) := by
  subst hq
  intro hO H locs ls hP hD hS hl
  exact lv_if_le hO.1 hO.2.1 d ht (fun c0 => kt c0 (by rw [if_pos c0] at h; exact h) hO H locs ls hP hD hS hl) (fun c0 => kf c0 (by rw [if_neg c0] at h; exact h) hO H locs ls hP hD hS hl)
theorem r_icmp_le {x y : Int32} {off : Int} {tgt : Nat} {dc : Decidable (x ≤ y)} {f g : Option R} (d : decode M.1 pc = .ok (.if_icmp .le off, 3)) (ht : (pc : Int) + off = (tgt : Int)) (hq : pc + 3 = q) (h : (if x ≤ y then f else g) = some out) (kt : x ≤ y → f = some out → J X S M σ tgt lv st) (kf : ¬ x ≤ y → g = some out → J X S M σ q lv st) : J X S M σ pc lv (.int y :: .int x :: st) := by
  subst hq
  intro hO H locs ls hP hD hS hl
  exact lv_icmp_le hO.1 hO.2.1 d ht (fun c0 => kt c0 (by rw [if_pos c0] at h; exact h) hO H locs ls hP hD hS hl) (fun c0 => kf c0 (by rw [if_neg c0] at h; exact h) hO H locs ls hP hD hS hl)
theorem r_goto {off : Int} {tgt : Nat} (d : decode M.1 pc = .ok (.goto off, 3)) (ht : (pc : Int) + off = (tgt : Int)) (k : J X S M σ tgt lv st) : J X S M σ pc lv st := by
  intro hO H locs ls hP hD hS hl
  exact lv_goto hO.1 hO.2.1 d ht (k hO H locs ls hP hD hS hl)
theorem r_ifnonnull {x : Nat} {off : Int} {tgt : Nat} (d : decode M.1 pc = .ok (.ifnonnull off, 3)) (ht : (pc : Int) + off = (tgt : Int)) (k : J X S M σ tgt lv st) : J X S M σ pc lv (.ref x :: st) := by
  intro hO H locs ls hP hD hS hl
  exact lv_ifnonnull hO.1 hO.2.1 d ht (k hO H locs ls hP hD hS hl)
theorem r_ifnonnullN {off : Int} (d : decode M.1 pc = .ok (.ifnonnull off, 3)) (hq : pc + 3 = q) (k : J X S M σ q lv st) : J X S M σ pc lv (.null :: st) := by
  subst hq
  intro hO H locs ls hP hD hS hl
  exact lv_ifnonnullN hO.1 hO.2.1 d (k hO H locs ls hP hD hS hl)
theorem r_ifnull {x : Nat} {off : Int} (d : decode M.1 pc = .ok (.ifnull off, 3)) (hq : pc + 3 = q) (k : J X S M σ q lv st) : J X S M σ pc lv (.ref x :: st) := by
  subst hq
  intro hO H locs ls hP hD hS hl
  exact lv_ifnull hO.1 hO.2.1 d (k hO H locs ls hP hD hS hl)
theorem r_ifnullN {off : Int} {tgt : Nat} (d : decode M.1 pc = .ok (.ifnull off, 3)) (ht : (pc : Int) + off = (tgt : Int)) (k : J X S M σ tgt lv st) : J X S M σ pc lv (.null :: st) := by
  intro hO H locs ls hP hD hS hl
  exact lv_ifnullN hO.1 hO.2.1 d ht (k hO H locs ls hP hD hS hl)
theorem r_lookup {dflt : Int} {ps : Array (Int × Int)} {len : Nat} {x : Int32} {off : Int} {tgt : Nat} (d : decode M.1 pc = .ok (.lookupswitch dflt ps, len)) (hp : (ps.toList.zip (ps.toList.drop 1)).all (fun (a, next) => a.1 < next.1) = true) (ho : Op.lookupswitch.offset ps.toList dflt x.toInt = off) (ht : (pc : Int) + off = (tgt : Int)) (k : J X S M σ tgt lv st) : J X S M σ pc lv (.int x :: st) := by
  intro hO H locs ls hP hD hS hl
  exact lv_lookup hO.1 hO.2.1 d hp ho ht (k hO H locs ls hP hD hS hl)
theorem r_tableOut {dflt lo hi : Int} {offs : Array Int} {len : Nat} {x : Int32} {tgt : Nat} (d : decode M.1 pc = .ok (.tableswitch dflt lo hi offs, len)) (hx : x.toInt < lo ∨ hi < x.toInt) (ht : (pc : Int) + dflt = (tgt : Int)) (k : J X S M σ tgt lv st) : J X S M σ pc lv (.int x :: st) := by
  intro hO H locs ls hP hD hS hl
  exact lv_tableOut hO.1 hO.2.1 d hx ht (k hO H locs ls hP hD hS hl)
theorem r_tableIn {dflt lo hi : Int} {offs : Array Int} {len : Nat} {x : Int32} {off : Int} {tgt : Nat} (d : decode M.1 pc = .ok (.tableswitch dflt lo hi offs, len)) (h1 : ¬ x.toInt < lo) (h2 : ¬ hi < x.toInt) (ho : offs[(x.toInt - lo).toNat]? = some off) (ht : (pc : Int) + off = (tgt : Int)) (k : J X S M σ tgt lv st) : J X S M σ pc lv (.int x :: st) := by
  intro hO H locs ls hP hD hS hl
  exact lv_tableIn hO.1 hO.2.1 d h1 h2 ho ht (k hO H locs ls hP hD hS hl)
theorem r_sub (ks : List Nat) (hv : lv_pick lv ks = lv2) (k : J X S M σ pc lv2 st) : J X S M σ pc lv st := by
  intro hO H locs ls hP hD hS hl
  exact k hO H locs ls hP hD hS (lv_sub hl ks hv)
/-- a field's link: its place in the own class's pool, its kind, its slot -/
def FG (own : String) (idx ci k : Nat) : Prop := ∃ (C : String) (T : u_T) (N : Nat), vwCl[ci]? = some (C, T, N) ∧ k < N ∧ Cond.fieldLink own idx (T k).1 (T k).2.1 (T k).2.2.1 ∈ BW ∧ ∀ w ∈ u_ws C T N, w ∈ BW
def FP (own : String) (idx ci k : Nat) (ty : FieldType) : Prop := ∃ (C : String) (T : u_T) (N : Nat) (t0 : Nat → FieldType), vwCl[ci]? = some (C, T, N) ∧ k < N ∧ Cond.fieldLink own idx (T k).1 (T k).2.1 (T k).2.2.1 ∈ BW ∧ (∀ w ∈ u_ws C T N, w ∈ BW) ∧ (∀ k, k < N → parseFieldDescriptor (T k).2.2.1 = some (t0 k)) ∧ (∀ a, a < N → ∀ b, b < N → a ≠ b → (T a).2.1 ≠ (T b).2.1) ∧ (T k).2.2.2 = false ∧ parseFieldDescriptor (T k).2.2.1 = some ty
theorem r_getI {o ci k t idx : Nat} {sl : List (Nat × Nat)} (g : FG M.2.1 idx ci k) (hs : S[o]? = some (0, ci, sl)) (hk : sl[k]? = some (0, t)) (d : decode M.1 pc = .ok (.getfield idx, 3)) (hq : pc + 3 = q) (kk : J X S M σ q lv (.int (σ.1 o k) :: st)) : J X S M σ pc lv (.ref (xad X o) :: st) := by
  subst hq
  intro hO H locs ls hP hD hS hl
  obtain ⟨C, T, N, hc, hkN, hw, hin⟩ := g
  exact va_get (fs := sl.mapIdx (slotV (xad X) σ o)) hO.1 hO.2.1 hO.2.2.2.2.2.1 hin hO.2.2.2.2.1 hO.2.2.2.2.2.2.2.1 hP o (ws_at hs) hc k hkN (hO.2.2.2.2.2.1 _ hw) (fun _ h9 => h9) (by rw [List.getElem?_mapIdx, hk]; rfl) d (kk hO H locs ls hP hD hS hl)
theorem r_getL {o ci k t idx : Nat} {sl : List (Nat × Nat)} (g : FG M.2.1 idx ci k) (hs : S[o]? = some (0, ci, sl)) (hk : sl[k]? = some (1, t)) (d : decode M.1 pc = .ok (.getfield idx, 3)) (hq : pc + 3 = q) (kk : J X S M σ q lv (.long (σ.2 o k) :: st)) : J X S M σ pc lv (.ref (xad X o) :: st) := by
  subst hq
  intro hO H locs ls hP hD hS hl
  obtain ⟨C, T, N, hc, hkN, hw, hin⟩ := g
  exact va_get (fs := sl.mapIdx (slotV (xad X) σ o)) hO.1 hO.2.1 hO.2.2.2.2.2.1 hin hO.2.2.2.2.1 hO.2.2.2.2.2.2.2.1 hP o (ws_at hs) hc k hkN (hO.2.2.2.2.2.1 _ hw) (fun _ h9 => h9) (by rw [List.getElem?_mapIdx, hk]; rfl) d (kk hO H locs ls hP hD hS hl)
theorem r_getR {o ci k t idx : Nat} {sl : List (Nat × Nat)} (g : FG M.2.1 idx ci k) (hs : S[o]? = some (0, ci, sl)) (hk : sl[k]? = some (2, t)) (d : decode M.1 pc = .ok (.getfield idx, 3)) (hq : pc + 3 = q) (kk : J X S M σ q lv (.ref (xad X t) :: st)) : J X S M σ pc lv (.ref (xad X o) :: st) := by
  subst hq
  intro hO H locs ls hP hD hS hl
  obtain ⟨C, T, N, hc, hkN, hw, hin⟩ := g
  exact va_get (fs := sl.mapIdx (slotV (xad X) σ o)) hO.1 hO.2.1 hO.2.2.2.2.2.1 hin hO.2.2.2.2.1 hO.2.2.2.2.2.2.2.1 hP o (ws_at hs) hc k hkN (hO.2.2.2.2.2.1 _ hw) (fun _ h9 => h9) (by rw [List.getElem?_mapIdx, hk]; rfl) d (kk hO H locs ls hP hD hS hl)
theorem r_putI {o ci k t idx : Nat} {sl : List (Nat × Nat)} {v : Int32} {f : Mem → Option R} (g : FP M.2.1 idx ci k .int) (hs : S[o]? = some (0, ci, sl)) (hk : sl[k]? = some (0, t)) (d : decode M.1 pc = .ok (.putfield idx, 3)) (hq : pc + 3 = q) (h : nm (setI σ o k v) f = some out) (kk : ∀ σ2, f σ2 = some out → J X S M σ2 q lv st) : J X S M σ pc lv (.int v :: .ref (xad X o) :: st) := by
  subst hq
  intro hO H locs ls hP hD hS hl
  obtain ⟨C, T, N, t0, hc, hkN, hw, hin, hty, hnm, hfin, hd⟩ := g
  refine va_put (fs := sl.mapIdx (slotV (xad X) σ o)) hO.1 hO.2.1 hO.2.2.2.2.2.1 hin t0 hty hnm hO.2.2.2.2.1 hO.2.2.2.2.2.2.2.1 hP hD hS o (ws_at hs) hc k hkN (hO.2.2.2.2.2.1 _ hw) (fun _ h9 => h9) hfin hd rfl rfl (by rw [List.length_mapIdx]; exact (List.getElem?_eq_some_iff.mp hk).1) d (fun H1 locs1 hP1 hD1 hS1 => ?_)
  rw [ws_putI v hs hk] at hP1 hD1
  exact kk _ h hO H1 locs1 ls hP1 hD1 hS1 hl
theorem r_putL {o ci k t idx : Nat} {sl : List (Nat × Nat)} {v : Int64} {f : Mem → Option R} (g : FP M.2.1 idx ci k .long) (hs : S[o]? = some (0, ci, sl)) (hk : sl[k]? = some (1, t)) (d : decode M.1 pc = .ok (.putfield idx, 3)) (hq : pc + 3 = q) (h : nm (setL σ o k v) f = some out) (kk : ∀ σ2, f σ2 = some out → J X S M σ2 q lv st) : J X S M σ pc lv (.long v :: .ref (xad X o) :: st) := by
  subst hq
  intro hO H locs ls hP hD hS hl
  obtain ⟨C, T, N, t0, hc, hkN, hw, hin, hty, hnm, hfin, hd⟩ := g
  refine va_put (fs := sl.mapIdx (slotV (xad X) σ o)) hO.1 hO.2.1 hO.2.2.2.2.2.1 hin t0 hty hnm hO.2.2.2.2.1 hO.2.2.2.2.2.2.2.1 hP hD hS o (ws_at hs) hc k hkN (hO.2.2.2.2.2.1 _ hw) (fun _ h9 => h9) hfin hd rfl rfl (by rw [List.length_mapIdx]; exact (List.getElem?_eq_some_iff.mp hk).1) d (fun H1 locs1 hP1 hD1 hS1 => ?_)
  rw [ws_putL v hs hk] at hP1 hD1
  exact kk _ h hO H1 locs1 ls hP1 hD1 hS1 hl
theorem r_iald {o n : Nat} {sl : List (Nat × Nat)} {i : Int32} {f : Nat → Option R} (hs : S[o]? = some (1, n, sl)) (d : decode M.1 pc = .ok (.iaload, 1)) (hq : pc + 1 = q) (h : rd i n f = some out) (kk : ∀ j, f j = some out → J X S M σ q lv (.int (σ.1 o j) :: st)) : J X S M σ pc lv (.int i :: .ref (xad X o) :: st) := by
  subst hq
  intro hO H locs ls hP hD hS hl
  obtain ⟨hin, h2⟩ := rd_of h
  exact va_iald hO.1 hO.2.1 hO.2.2.2.2.2.2.2.1 hP o 0 (ws_at hs) rfl hin d (kk _ h2 hO H locs ls hP hD hS hl)
theorem r_lald {o n : Nat} {sl : List (Nat × Nat)} {i : Int32} {f : Nat → Option R} (hs : S[o]? = some (3, n, sl)) (d : decode M.1 pc = .ok (.laload, 1)) (hq : pc + 1 = q) (h : rd i n f = some out) (kk : ∀ j, f j = some out → J X S M σ q lv (.long (σ.2 o j) :: st)) : J X S M σ pc lv (.int i :: .ref (xad X o) :: st) := by
  subst hq
  intro hO H locs ls hP hD hS hl
  obtain ⟨hin, h2⟩ := rd_of h
  exact va_lald hO.1 hO.2.1 hO.2.2.2.2.2.2.2.1 hP o 2 (ws_at hs) rfl hin d (kk _ h2 hO H locs ls hP hD hS hl)
theorem r_iast {o n : Nat} {sl : List (Nat × Nat)} {i : Int32} {v : Int32} {f : Mem → Option R} (hs : S[o]? = some (1, n, sl)) (d : decode M.1 pc = .ok (.iastore, 1)) (hq : pc + 1 = q) (h : stI σ o n i v f = some out) (kk : ∀ σ2, f σ2 = some out → J X S M σ2 q lv st) : J X S M σ pc lv (.int v :: .int i :: .ref (xad X o) :: st) := by
  subst hq
  intro hO H locs ls hP hD hS hl
  obtain ⟨hin, h2⟩ := rd_of h
  refine va_iast hO.1 hO.2.1 hO.2.2.2.2.2.2.2.1 hP hD hS o 0 (ws_at hs) rfl hin d (fun H1 locs1 hP1 hD1 hS1 => ?_)
  rw [ws_putAI _ _ hs] at hP1 hD1
  exact kk _ h2 hO H1 locs1 ls hP1 hD1 hS1 hl
theorem r_last {o n : Nat} {sl : List (Nat × Nat)} {i : Int32} {v : Int64} {f : Mem → Option R} (hs : S[o]? = some (3, n, sl)) (d : decode M.1 pc = .ok (.lastore, 1)) (hq : pc + 1 = q) (h : stL σ o n i v f = some out) (kk : ∀ σ2, f σ2 = some out → J X S M σ2 q lv st) : J X S M σ pc lv (.long v :: .int i :: .ref (xad X o) :: st) := by
  subst hq
  intro hO H locs ls hP hD hS hl
  obtain ⟨hin, h2⟩ := rd_of h
  refine va_last hO.1 hO.2.1 hO.2.2.2.2.2.2.2.1 hP hD hS o 2 (ws_at hs) rfl hin d (fun H1 locs1 hP1 hD1 hS1 => ?_)
  rw [ws_putAL _ _ hs] at hP1 hD1
  exact kk _ h2 hO H1 locs1 ls hP1 hD1 hS1 hl
theorem r_alen {o n tag : Nat} {sl : List (Nat × Nat)} {v : Int32} (hs : S[o]? = some (tag, n, sl)) (ht : tag = 1 ∨ tag = 3 ∨ tag = 4) (hv : Int32.ofNat n = v) (d : decode M.1 pc = .ok (.arraylength, 1)) (hq : pc + 1 = q) (kk : J X S M σ q lv (.int v :: st)) : J X S M σ pc lv (.ref (xad X o) :: st) := by
  subst hq
  intro hO H locs ls hP hD hS hl
  rcases ht with rfl | rfl | rfl
  · exact va_alen hO.1 hO.2.1 hO.2.2.2.2.2.2.2.1 hP o 0 (x := (n, .inl (σ.1 o))) (ws_at hs) rfl hv d (kk hO H locs ls hP hD hS hl)
  · exact va_alen hO.1 hO.2.1 hO.2.2.2.2.2.2.2.1 hP o 2 (x := (n, .inr (.inl (σ.2 o)))) (ws_at hs) rfl hv d (kk hO H locs ls hP hD hS hl)
  · exact va_alen hO.1 hO.2.1 hO.2.2.2.2.2.2.2.1 hP o 3 (ws_at hs) rfl hv d (kk hO H locs ls hP hD hS hl)
theorem r_aald {o n b : Nat} {sl : List (Nat × Nat)} {i : Int32} {f : Nat → Option R} (hs : S[o]? = some (4, n, sl)) (hb : ∀ j, j < n → sl[j]? = some (2, b + j)) (d : decode M.1 pc = .ok (.aaload, 1)) (hq : pc + 1 = q) (h : rd i n f = some out) (kk : ∀ j, j < n → f j = some out → J X S M σ q lv (.ref (xad X (b + j)) :: st)) : J X S M σ pc lv (.int i :: .ref (xad X o) :: st) := by
  subst hq
  intro hO H locs ls hP hD hS hl
  obtain ⟨hin, h2⟩ := rd_of h
  have hlt : i.toNatClampNeg < n := Nat.not_le.mp fun q => hin (Or.inr q)
  refine va_aldq hO.1 hO.2.1 hO.2.2.2.2.2.2.2.1 hP o 3 (ws_at hs) rfl hin d ?_
  have e : va_rf (refL (xad X) sl i.toNatClampNeg) = .ref (xad X (b + i.toNatClampNeg)) := by
    unfold refL
    rw [hb _ hlt]
    rfl
  show W _ _ _ _ _ _ _ _ _ _ _ _ _ _ _ (F0 _ _ _ (va_rf (refL (xad X) sl i.toNatClampNeg) :: st))
  rw [e]
  exact kk _ hlt h2 hO H locs ls hP hD hS hl
theorem r_iret {v : Int32} {out : Int32 × Mem} (hm : M.2.2.2.1 = some .int) (d : decode M.1 pc = .ok (.ireturn, 1)) (h : some (v, σ) = some out) (hE : Ends X S (some (.int out.1)) out.2) : J X S M σ pc lv [.int v] := by
  intro hO H locs ls hP hD hS hl
  cases h
  exact W.iret hO.1 hO.2.1 (hO.2.2.1.trans hm) (fun t ht hW => hE t H locs ht hP hD hS) hS.2.2 d hO.2.2.2.2.2.2.1
theorem r_zret {v : Int32} {out : Int32 × Mem} (hm : M.2.2.2.1 = some .boolean) (d : decode M.1 pc = .ok (.ireturn, 1)) (h : rz v σ = some out) (hE : Ends X S (some (.int out.1)) out.2) : J X S M σ pc lv [.int v] := by
  unfold rz at h
  by_cases hc : v = 0 ∨ v = 1
  · rw [if_pos hc] at h
    have hn : narrow .boolean (.int v) = .int v := by rcases hc with hc | hc <;> (rw [hc]; decide +kernel)
    intro hO H locs ls hP hD hS hl
    cases h
    exact W.zret hO.1 hO.2.1 (hO.2.2.1.trans hm) hn (fun t ht hW => hE t H locs ht hP hD hS) hS.2.2 d hO.2.2.2.2.2.2.1
  · rw [if_neg hc] at h; cases h
theorem r_lret {v : Int64} {out : Int64 × Mem} (hm : M.2.2.2.1 = some .long) (d : decode M.1 pc = .ok (.lreturn, 1)) (h : some (v, σ) = some out) (hE : Ends X S (some (.long out.1)) out.2) : J X S M σ pc lv [.long v] := by
  intro hO H locs ls hP hD hS hl
  cases h
  exact W.lret hO.1 hO.2.1 (hO.2.2.1.trans hm) (fun t ht hW => hE t H locs ht hP hD hS) hS.2.2 d hO.2.2.2.2.2.2.1
theorem r_vret {out : Mem} (hm : M.2.2.2.1 = none) (d : decode M.1 pc = .ok (.return_, 1)) (h : some σ = some out) (hE : Ends X S none out) : J X S M σ pc lv [] := by
  intro hO H locs ls hP hD hS hl
  cases h
  exact W.vret hO.1 hO.2.1 (hO.2.2.1.trans hm) (fun t ht hW => hE t H locs ht hP hD hS) hS.2.2 d hO.2.2.2.2.2.2.1
theorem r_aret {o : Nat} {out : Option Nat × Mem} {C : String} (hm : M.2.2.2.1 = some (.object C)) (d : decode M.1 pc = .ok (.areturn, 1)) (h : some (some o, σ) = some out) (hE : Ends X S (some (ov (xad X) out.1)) out.2) : J X S M σ pc lv [.ref (xad X o)] := by
  intro hO H locs ls hP hD hS hl
  cases h
  exact W.aret hO.1 hO.2.1 (hO.2.2.1.trans hm) (Or.inl ⟨C, rfl⟩) (Or.inr ⟨_, rfl⟩) (fun t ht hW => hE t H locs ht hP hD hS) hS.2.2 d hO.2.2.2.2.2.2.1
theorem r_aretN {out : Option Nat × Mem} {C : String} (hm : M.2.2.2.1 = some (.object C)) (d : decode M.1 pc = .ok (.areturn, 1)) (h : some (none, σ) = some out) (hE : Ends X S (some (ov (xad X) out.1)) out.2) : J X S M σ pc lv [.null] := by
  intro hO H locs ls hP hD hS hl
  cases h
  exact W.aret hO.1 hO.2.1 (hO.2.2.1.trans hm) (Or.inl ⟨C, rfl⟩) (Or.inl rfl) (fun t ht hW => hE t H locs ht hP hD hS) hS.2.2 d hO.2.2.2.2.2.2.1
/-- a call's end: its answer, and the memory behind it -/
theorem any_call {p : Program} {l : Launch} {e : Env} {R : Room} {s : State} {m : MethodId} {args : Array Value} {below : List Frame} {meth : Method} {c : Code} {H : Heap} {locs : List Loc} {Q : State → Prop} {pc : Nat} {ls : Array Slot} {rest st0 : List Value} {A0 A1 : Nat → Prop} {H0 : Heap} {free : Addr → Prop} {r : Option Value} {P : State → Prop}
    (hr : va_Run p l e R s m args below meth c H locs 0 0 0 0 (F0 m pc ls st0) rest (fun st oc t => (oc = .returned r ∧ P t) ∧ va_F A1 st t) free) (hS : va_S A0 H0 H locs) (hA : ∀ q, A1 q → A0 q) (hf : ∀ q, free q → A0 q)
    (kk : ∀ (t : State) (H1 : Heap) (locs1 : List Loc), t.heap = H1 → P t → va_S A0 H0 H1 locs1 → W p l e R s m args below meth c H1 locs1 0 0 Q (F0 m (pc + 3) ls (r.toList ++ rest))) : W p l e R s m args below meth c H locs 0 0 Q (F0 m pc ls st0) := by
  intro T hT X
  obtain ⟨v, st₀, t, T', L, h0, X', hL, e1, e2, ⟨⟨hv, hb⟩, hz, hk⟩, st⟩ := hr T hT X
  cases hv
  rw [h0] at hz hk
  obtain ⟨t2, a1, b1⟩ := kk t T'.heap (locs ++ L) e1.symm hb
    ⟨Nat.le_trans hS.1 (by rw [e1]; exact hz), fun q h1 h2 => by rw [e1, hk q (Nat.lt_of_lt_of_le h1 hS.1) (fun z => h2 (hA q z))]; exact hS.2.1 q h1 h2, fun q hq => by
      rcases List.mem_append.mp hq with h | h
      · exact hS.2.2 q h
      · exact hf _ (hL q h)⟩ T' rfl X'
  exact ⟨t2, st t2 a1, b1⟩
def MV (own : String) (idx : Nat) (C : String) (y : MethodName) (cb : ByteArray) (nl : Nat) (ret : Option FieldType) (n : Nat) : Prop := GoodIn BW (wsV own idx C y (.code y cb nl ret :: BW)) ∧ (y.cls = C ∧ y.cls ≠ "java/lang/invoke/MethodHandle" ∧ y.cls ≠ "java/lang/invoke/VarHandle" ∧ (parseMethodDescriptor y.desc).map (fun d => d.parameters.length) = some n) ∧ nl ≤ 21
def MS (own : String) (idx : Nat) (y : MethodName) (cb : ByteArray) (nl : Nat) (ret : Option FieldType) (n : Nat) : Prop := GoodIn BW (va_wsS own idx y (.code y cb nl ret :: BW)) ∧ (y.cls ≠ "java/lang/invoke/MethodHandle" ∧ y.cls ≠ "java/lang/invoke/VarHandle" ∧ (parseMethodDescriptor y.desc).map (fun d => d.parameters.length) = some n) ∧ nl ≤ 21
def MN (own : String) (idx : Nat) (y : MethodName) (host : String) (cb : ByteArray) (nl : Nat) (ret : Option FieldType) (n : Nat) : Prop := GoodIn BW (.code y cb nl ret :: BW) ∧ ((own, idx, y, host) ∈ nestL ∧ Cond.initialized y.cls ∈ BW ∧ Cond.static y ∈ BW) ∧ (y.cls ≠ "java/lang/invoke/MethodHandle" ∧ y.cls ≠ "java/lang/invoke/VarHandle" ∧ (parseMethodDescriptor y.desc).map (fun d => d.parameters.length) = some n) ∧ nl ≤ 21
theorem gBW {ws : List Cond} (h : ∀ w ∈ ws, w ∈ BW) : GoodIn BW ws := fun w hw => ⟨h w hw, good_of_word (bw_good w (h w hw))⟩
theorem blindC {S : List SC} {D : va_G} {ca : Nat → ClassId} {ad : Nat → Nat} {σ : Mem} {sz : Nat} {as : List Value} : FrameBlind (va_Pc as (fun U => U.heap.size = sz ∧ va_P D vwCl (wsOf S ca ad σ) U.heap ∧ va_K D vwCl (tyL ca) U ∧ va_D (fun _ => True) (wsOf S ca ad σ) ∧ NK U)) := by
  intro a U g mk q
  obtain ⟨q0, q1, qP, qK, qD, qN⟩ := q
  exact ⟨q0, q1, qP, va_K.moved (u := U) (U := U.calling g mk a) (Vm.Alike.refl U.vm) qK, qD, qN.same rfl⟩
theorem freeA {A : Nat → Prop} {ws : va_W} {H0 H : Heap} {locs : List Loc} (hD : va_D A ws) (hS : va_S A H0 H locs) (hA : ∀ q, H0.size ≤ q → A q) : ∀ q, va_A ws H.size q → A q := by
  intro q h
  rcases h with ⟨k, e, h⟩ | h
  · exact hD.2 k (q, e) h
  · exact hA q (Nat.le_trans hS.1 h)
theorem room_ok {d' d nl : Nat} (h : d' < d) (hn : nl ≤ 21) : (rmL d').frames + 1 ≤ (rmL d).frames ∧ 8 + (nl + 11) + (rmL d').locals ≤ (rmL d).locals := by
  show d' + 1 ≤ d ∧ 8 + (nl + 11) + 50 * d' ≤ 50 * d
  omega

theorem r_callV {y : MethodName} {cb : ByteArray} {nl n d' o ci idx : Nat} {C : String} {T : u_T} {N : Nat} {ret : Option FieldType} {as : (Nat → Nat) → List Value} {r : (Nat → Nat) → Option Value} {σ' : Mem} {sl : List (Nat × Nat)} (As rest st2 : List Value) (hc : Con S d' y cb nl ret as σ r σ') (mv : MV M.2.1 idx C y cb nl ret n) (hd : d' < M.2.2.2.2) (hs : S[o]? = some (0, ci, sl)) (hcl : vwCl[ci]? = some (C, T, N)) (has : as (xad X) = .ref (xad X o) :: As) (hn : As.length = n) {st0 : List Value} (hst : st0 = As.reverse ++ .ref (xad X o) :: rest) (hr : (rest.map fun v => v.category).sum ≤ 8) (h2 : (r (xad X)).toList ++ rest = st2) (d : decode M.1 pc = .ok (.invokevirtual idx, 3)) (hq : pc + 3 = q) (kk : J X S M σ' q lv st2) : J X S M σ pc lv st0 := by
  subst hq
  subst h2
  intro hO H locs ls hP hD hS hl
  have hF := freeA hD hS hO.2.2.2.2.2.2.2.2.2
  refine any_call (r := r (xad X)) (P := fun t => va_P (xD X) vwCl (wsOf S (xk X) (xad X) σ') t.heap ∧ va_D (va_A (wsOf S (xk X) (xad X) σ) H.size) (wsOf S (xk X) (xad X) σ')) (va_runV (As := As) (rest := rest) ⟨hO.1, hO.2.1, hO.2.2.2.1, hO.2.2.2.2.1, hO.2.2.2.2.2.1⟩ (hc (xl X) (xD X) (xk X) (xad X) H.size) (cwV n hO.2.2.2.2.2.1 mv.1 rfl rfl rfl mv.2.1 (room_ok hd mv.2.2)) ⟨blindC, va_recv hO.2.2.2.2.2.2.2.1 hP hcl (ws_at hs), fun U hU hW => ⟨by rw [has], by rw [hU], by rw [hU]; exact hP, va_K.moved hW.alike hO.2.2.2.2.2.2.2.1, hD.weaken (fun _ _ _ _ => trivial), hO.2.2.2.2.2.2.2.2.1.warm hW⟩⟩ rfl hn hl.1 hst (lv_room hr) d ⟨Nat.le_refl _, Nat.le_refl _⟩) hS hF hF (fun t H1 locs1 ht hPt hS1 => ?_)
  have hk := kk hO H1 locs1 ls (by rw [← ht]; exact hPt.1) (hPt.2.weaken (fun _ _ _ h => hF _ h)) hS1 hl
  exact hk
theorem r_callS {y : MethodName} {cb : ByteArray} {nl n d' idx : Nat} {ret : Option FieldType} {as : (Nat → Nat) → List Value} {r : (Nat → Nat) → Option Value} {σ' : Mem} (rest st2 : List Value) (hc : Con S d' y cb nl ret as σ r σ') (ms : MS M.2.1 idx y cb nl ret n) (hd : d' < M.2.2.2.2) (hn : (as (xad X)).length = n) {st0 : List Value} (hst : st0 = (as (xad X)).reverse ++ rest) (hr : (rest.map fun v => v.category).sum ≤ 8) (h2 : (r (xad X)).toList ++ rest = st2) (d : decode M.1 pc = .ok (.invokestatic idx, 3)) (hq : pc + 3 = q) (kk : J X S M σ' q lv st2) : J X S M σ pc lv st0 := by
  subst hq
  subst h2
  intro hO H locs ls hP hD hS hl
  have hF := freeA hD hS hO.2.2.2.2.2.2.2.2.2
  refine any_call (r := r (xad X)) (P := fun t => va_P (xD X) vwCl (wsOf S (xk X) (xad X) σ') t.heap ∧ va_D (va_A (wsOf S (xk X) (xad X) σ) H.size) (wsOf S (xk X) (xad X) σ')) (va_runS (As := as (xad X)) (rest := rest) ⟨hO.1, hO.2.1, hO.2.2.2.1, hO.2.2.2.2.1, hO.2.2.2.2.2.1⟩ (hc (xl X) (xD X) (xk X) (xad X) H.size) (va_cwS n hO.2.2.2.2.2.1 ms.1 rfl rfl rfl ms.2.1 (room_ok hd ms.2.2)) ⟨blindC, fun U hU hW => ⟨rfl, by rw [hU], by rw [hU]; exact hP, va_K.moved hW.alike hO.2.2.2.2.2.2.2.1, hD.weaken (fun _ _ _ _ => trivial), hO.2.2.2.2.2.2.2.2.1.warm hW⟩⟩ rfl hn hl.1 hst (lv_room hr) d ⟨Nat.le_refl _, Nat.le_refl _⟩) hS hF hF (fun t H1 locs1 ht hPt hS1 => ?_)
  have hk := kk hO H1 locs1 ls (by rw [← ht]; exact hPt.1) (hPt.2.weaken (fun _ _ _ h => hF _ h)) hS1 hl
  exact hk
theorem r_callN {y : MethodName} {host : String} {cb : ByteArray} {nl n d' idx : Nat} {ret : Option FieldType} {as : (Nat → Nat) → List Value} {r : (Nat → Nat) → Option Value} {σ' : Mem} (rest st2 : List Value) (hc : Con S d' y cb nl ret as σ r σ') (mn : MN M.2.1 idx y host cb nl ret n) (hd : d' < M.2.2.2.2) (hn : (as (xad X)).length = n) {st0 : List Value} (hst : st0 = (as (xad X)).reverse ++ rest) (hr : (rest.map fun v => v.category).sum ≤ 8) (h2 : (r (xad X)).toList ++ rest = st2) (d : decode M.1 pc = .ok (.invokestatic idx, 3)) (hq : pc + 3 = q) (kk : J X S M σ' q lv st2) : J X S M σ pc lv st0 := by
  subst hq
  subst h2
  intro hO H locs ls hP hD hS hl
  have hF := freeA hD hS hO.2.2.2.2.2.2.2.2.2
  refine any_call (r := r (xad X)) (P := fun t => va_P (xD X) vwCl (wsOf S (xk X) (xad X) σ') t.heap ∧ va_D (va_A (wsOf S (xk X) (xad X) σ) H.size) (wsOf S (xk X) (xad X) σ')) (va_runSN (As := as (xad X)) (rest := rest) ⟨hO.1, hO.2.1, hO.2.2.2.1, hO.2.2.2.2.1, hO.2.2.2.2.2.1⟩ (hc (xl X) (xD X) (xk X) (xad X) H.size) ⟨va_cnB (host := host) n hO.2.2.2.2.2.1 mn.1 rfl rfl rfl (hO.2.2.2.2.2.2.2.2.1 _ mn.2.1.1) (hO.2.2.2.2.2.1 _ mn.2.1.2.1) mn.2.2.1 (room_ok hd mn.2.2.2), hO.2.2.2.2.2.1 _ mn.2.1.2.2, trivial⟩ ⟨blindC, fun U hU hW => ⟨rfl, by rw [hU], by rw [hU]; exact hP, va_K.moved hW.alike hO.2.2.2.2.2.2.2.1, hD.weaken (fun _ _ _ _ => trivial), hO.2.2.2.2.2.2.2.2.1.warm hW⟩⟩ rfl hn hl.1 hst (lv_room hr) d ⟨Nat.le_refl _, Nat.le_refl _⟩) hS hF hF (fun t H1 locs1 ht hPt hS1 => ?_)
  have hk := kk hO H1 locs1 ls (by rw [← ht]; exact hPt.1) (hPt.2.weaken (fun _ _ _ h => hF _ h)) hS1 hl
  exact hk
theorem bi_of {α R : Type} {out : R} {x : Option (α × Mem)} {f : α → Mem → Option R} (h : bi x f = some out) : ∃ r σ', x = some (r, σ') ∧ f r σ' = some out := by
  cases x with
  | none => cases h
  | some p => exact ⟨p.1, p.2, rfl, h⟩
theorem bv_of {R : Type} {out : R} {x : Option Mem} {f : Mem → Option R} (h : bv x f = some out) : ∃ σ', x = some σ' ∧ f σ' = some out := by
  cases x with
  | none => cases h
  | some p => exact ⟨p, rfl, h⟩
theorem sh_of {R : Type} {out : R} {v : Option Nat} {a : Option R} {f : Nat → Option R} (h : sh v a f = some out) : (v = none ∧ a = some out) ∨ ∃ o, v = some o ∧ shOk o ∧ f o = some out := by
  cases v with
  | none => exact Or.inl ⟨rfl, h⟩
  | some o =>
    unfold sh at h
    by_cases hc : 7 ≤ o ∧ o ≤ 10
    · simp only [if_pos hc] at h; exact Or.inr ⟨o, rfl, hc, h⟩
    · simp only [if_neg hc] at h; cases h
def AC (own : String) (idx : Nat) : Prop := Cond.methodLink own idx arraycopyName ∈ BW ∧ Cond.native arraycopyName ∈ BW ∧ Cond.static arraycopyName ∈ BW ∧ Cond.initialized "java/lang/System" ∈ BW
theorem r_copyA {o1 o2 n1 n2 idx : Nat} {sp dp n : Int32} {f : Mem → Option R} (g : AC M.2.1 idx) (h1 : S[o1]? = some (1, n1, [])) (h2 : S[o2]? = some (1, n2, [])) (hd : 1 ≤ M.2.2.2.2) (d : decode M.1 pc = .ok (.invokestatic idx, 3)) (hq : pc + 3 = q) (h : cpA σ o1 o2 n1 n2 sp dp n f = some out) (kk : ∀ σ2, f σ2 = some out → J X S M σ2 q lv []) : J X S M σ pc lv [.int n, .int dp, .ref (xad X o2), .int sp, .ref (xad X o1)] := by
  subst hq
  unfold cpA at h
  by_cases hc : sp < 0 ∨ dp < 0 ∨ n < 0 ∨ n1 < sp.toNatClampNeg + n.toNatClampNeg ∨ n2 < dp.toNatClampNeg + n.toNatClampNeg
  · rw [if_pos hc] at h; cases h
  · rw [if_neg hc] at h
    intro hO H locs ls hP hD hS hl
    have hw : nativeFrameWords "java/lang/System" "arraycopy" 5 + 11 ≤ 50 := by decide +kernel
    refine va_copyi (rest := []) hO.1 hO.2.1 (hO.2.2.2.1.trans hl.1.symm) hO.2.2.2.2.1 (hO.2.2.2.2.2.1 _ g.1) (hO.2.2.2.2.2.1 _ g.2.1) (hO.2.2.2.2.2.1 _ g.2.2.1) (hO.2.2.2.2.2.1 _ g.2.2.2) hO.2.2.2.2.2.2.2.1 hP hD hS o1 o2 0 0 (ws_at h1) (ws_at h2) rfl rfl rfl (fun z => hc (Or.inl z)) (fun z => hc (Or.inr (Or.inl z))) (fun z => hc (Or.inr (Or.inr (Or.inl z)))) (Nat.le_of_not_lt fun z => hc (Or.inr (Or.inr (Or.inr (Or.inl z))))) (Nat.le_of_not_lt fun z => hc (Or.inr (Or.inr (Or.inr (Or.inr z))))) (fun _ _ => rfl) hd ?_ d (fun H1 locs1 hP1 hD1 hS1 => ?_)
    · show 0 + (nativeFrameWords "java/lang/System" "arraycopy" 5 + 11) ≤ 50 * M.2.2.2.2
      omega
    · rw [ws_putA _ h2] at hP1 hD1
      exact kk _ h hO H1 locs1 ls hP1 hD1 hS1 hl
theorem mv_of {own : String} {idx : Nat} {C : String} {y : MethodName} {cb : ByteArray} {nl : Nat} {ret : Option FieldType} {n : Nat} (h1 : Cond.methodLink own idx y ∈ BW) (h2 : Cond.instanceMethod y ∈ BW) (h3 : Cond.selects C y y ∈ BW) (h4 : Cond.initialized C ∈ BW) (h5 : Cond.code y cb nl ret ∈ BW) (hy : y.cls = C ∧ y.cls ≠ "java/lang/invoke/MethodHandle" ∧ y.cls ≠ "java/lang/invoke/VarHandle" ∧ (parseMethodDescriptor y.desc).map (fun d => d.parameters.length) = some n) (hn : nl ≤ 21) : MV own idx C y cb nl ret n := by
  refine ⟨gBW (fun w hw => ?_), hy, hn⟩
  rcases List.mem_append.mp hw with h | h
  · rcases List.mem_cons.mp h with rfl | h
    · exact h1
    · rcases List.mem_cons.mp h with rfl | h
      · exact h2
      · rcases List.mem_cons.mp h with rfl | h
        · exact h3
        · rcases List.mem_cons.mp h with rfl | h
          · exact h4
          · cases h
  · rcases List.mem_cons.mp h with rfl | h
    · exact h5
    · exact h
theorem ms_of {own : String} {idx : Nat} {y : MethodName} {cb : ByteArray} {nl : Nat} {ret : Option FieldType} {n : Nat} (h1 : Cond.methodLink own idx y ∈ BW) (h2 : Cond.static y ∈ BW) (h3 : Cond.initialized y.cls ∈ BW) (h5 : Cond.code y cb nl ret ∈ BW) (hy : y.cls ≠ "java/lang/invoke/MethodHandle" ∧ y.cls ≠ "java/lang/invoke/VarHandle" ∧ (parseMethodDescriptor y.desc).map (fun d => d.parameters.length) = some n) (hn : nl ≤ 21) : MS own idx y cb nl ret n := by
  refine ⟨gBW (fun w hw => ?_), hy, hn⟩
  rcases List.mem_append.mp hw with h | h
  · rcases List.mem_cons.mp h with rfl | h
    · exact h1
    · rcases List.mem_cons.mp h with rfl | h
      · exact h2
      · rcases List.mem_cons.mp h with rfl | h
        · exact h3
        · cases h
  · rcases List.mem_cons.mp h with rfl | h
    · exact h5
    · exact h
theorem mn_of {own : String} {idx : Nat} {y : MethodName} {host : String} {cb : ByteArray} {nl : Nat} {ret : Option FieldType} {n : Nat} (h1 : (own, idx, y, host) ∈ nestL) (h2 : Cond.static y ∈ BW) (h3 : Cond.initialized y.cls ∈ BW) (h5 : Cond.code y cb nl ret ∈ BW) (hy : y.cls ≠ "java/lang/invoke/MethodHandle" ∧ y.cls ≠ "java/lang/invoke/VarHandle" ∧ (parseMethodDescriptor y.desc).map (fun d => d.parameters.length) = some n) (hn : nl ≤ 21) : MN own idx y host cb nl ret n := by
  refine ⟨gBW (fun w hw => ?_), ⟨h1, h3, h2⟩, hy, hn⟩
  rcases List.mem_cons.mp hw with rfl | h
  · exact h5
  · exact h
def MM (own : String) (idx : Nat) : Prop := Cond.methodLink own idx Lib.Math.min.name ∈ BW ∧ Cond.static Lib.Math.min.name ∈ BW ∧ Cond.initialized "java/lang/Math" ∈ BW ∧ Cond.code Lib.Math.min.name Lib.Math.min.code 2 (some .int) ∈ BW
theorem r_min {x y : Int32} {idx : Nat} (g : MM M.2.1 idx) (hd : 1 ≤ M.2.2.2.2) (hr : (st.map fun v => v.category).sum ≤ 8) (d : decode M.1 pc = .ok (.invokestatic idx, 3)) (hq : pc + 3 = q) (kk : J X S M σ q lv (.int (if y < x then y else x) :: st)) : J X S M σ pc lv (.int y :: .int x :: st) := by
  subst hq
  intro hO H locs ls hP hD hS hl
  refine va_mmin hO.1 hO.2.1 (hO.2.2.2.1.trans hl.1.symm) hO.2.2.2.2.1 (hO.2.2.2.2.2.1 _ g.1) (hO.2.2.2.2.2.1 _ g.2.1) (hO.2.2.2.2.2.1 _ g.2.2.1) (hO.2.2.2.2.2.1 _ g.2.2.2) hd ?_ (Nat.le_refl _) (Nat.le_refl _) d (kk hO H locs ls hP hD hS hl)
  show (st.map fun v => v.category).sum + 13 ≤ 50 * M.2.2.2.2
  omega
end JR

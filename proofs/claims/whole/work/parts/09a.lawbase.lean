/-! THE CLAIM OUT OF ONE WALK OF THE LAW'S BODY. Your part is whole_start (and what it stands on); all else here is the same for every law, but numbers. -/
def R_law : String := "IceYardLaw"
def lw_P (b : Addr) (xs : List Int32) (args : Array Value) (s : State) : Prop := args = #[.ref b] ∧ s.IntsAt b xs ∧ xs.length ≤ 3072 ∧ (Jvm.Cond.and given_1 narrow_1).before args s = true
def lw_Q (_ : Array Value) (s : State) (o : Outcome) (t : State) : Prop := o = .returned (some (.int 1)) ∧ Framed s o t [] 600000 7302250
def lw_Z (below : List Frame) (a : Array Value) (s : State) : State → Prop := fun t => ∃ o, t.status = .running ∧ Ended t below o ∧ lw_Q a s o t
/-- the law's own end, with 1 on the stack, nothing written that was there before, its room as the claim has it -/
theorem lw_ret {p : Program} {l : Launch} {e : Env} {s : State} {m : MethodId} {below : List Frame} {meth : Method} {c : Code} {b : Nat} (hx : p.tables.exec = Jvm.exec) (hb : c.code = code) (hr : meth.sig.returnType = ret) (hlocks : meth.locks = false) {pc : Nat} {H : Heap} {ls : Array Slot} (hdg : decode code pc = .ok (.ireturn, 1)) : W p l e room_1 s m #[Value.ref b] below meth c H [] 600000 7302250 (lw_Z below #[Value.ref b] s) (F0 m pc ls [.int 1]) := by
  intro T hT X
  obtain ⟨fs, hret, hrun, hended, hW, hframe⟩ := X.leave (v := some (.int 1)) (hlocks := hlocks) (fun h => by rw [hr] at h; cases h)
  have hmeth' : T.vm.method? m = some meth := X.method'
  refine ⟨T.setFrames fs, ?_, .returned (some (.int 1)), hrun, hended, rfl, ⟨_, rfl⟩, hW, hframe⟩
  jvm_step X.here [X.here.top, hx, hb, hdg, hmeth', hr, ret, narrow_b1]
  (try refine ⟨rfl, ?_⟩); (try refine ⟨rfl, ?_⟩)
  first | (intro acts; rw [hret _ acts rfl rfl rfl]) | rw [hret _ _ rfl rfl rfl]
  exact Steps.refl _
/-- what holds at the law's entry: the machine, the code, the tables' words (any of lw_tbl by 'hts w (by decide +kernel)'), the script of L ints xs at the cell b, what the Statement gives of the start (any of its parts by flat_of_before) -/
def lw_At (p : Program) (s : State) (m : MethodId) (meth : Method) (c : Code) (b L : Nat) (xs : Nat → Int32) : Prop :=
  p.tables.exec = Jvm.exec ∧ c.code = code ∧ meth.sig.returnType = ret ∧ c.maxLocals = 4 ∧ s.vm.findClass R_law = some m.cls ∧ (∀ w ∈ lw_tbl, w.before #[Value.ref b] s = true) ∧ va_X b L xs s s.heap ∧ b < s.heap.size ∧ meth.locks = false ∧ (Jvm.Cond.and given_1 narrow_1).before #[Value.ref b] s = true
/-! ===== THE LAW'S OWN WALK: its world is the class's and the reference's, one behind the other ===== -/
theorem part_app {D : va_G} {cl : List vw_C} {A B : va_W} {H : Heap} (hP : va_P D cl (A ++ B) H) : va_P D cl A H ∧ va_P D cl B H := by
  refine ⟨fun k q hq => hP k q ?_, fun k q hq => hP (A.length + k) q ?_⟩
  · rw [List.getElem?_append_left (List.getElem?_eq_some_iff.mp hq).1]; exact hq
  · rw [List.getElem?_append_right (Nat.le_add_right _ _), Nat.add_sub_cancel_left]; exact hq
theorem partD_app {A0 : Nat → Prop} {A B : va_W} (hD : va_D A0 (A ++ B)) : va_D A0 A ∧ va_D A0 B := by
  have hA : ∀ (k : Nat) (q : Nat × va_E), A[k]? = some q → (A ++ B)[k]? = some q := fun k q hq => by
    rw [List.getElem?_append_left (List.getElem?_eq_some_iff.mp hq).1]; exact hq
  have hB : ∀ (k : Nat) (q : Nat × va_E), B[k]? = some q → (A ++ B)[A.length + k]? = some q := fun k q hq => by
    rw [List.getElem?_append_right (Nat.le_add_right _ _), Nat.add_sub_cancel_left]; exact hq
  exact ⟨⟨fun i j p q hp hq e => hD.1 i j p q (hA i p hp) (hA j q hq) e, fun k q hq => hD.2 k q (hA k q hq)⟩, ⟨fun i j p q hp hq e => by have := hD.1 _ _ p q (hB i p hp) (hB j q hq) e; omega, fun k q hq => hD.2 _ q (hB k q hq)⟩⟩
theorem join1 {A0 : Nat → Prop} {D : va_G} {cl : List vw_C} {A B A' : va_W} {H H1 : Heap} (hP : va_P D cl (A ++ B) H) (hD : va_D A0 (A ++ B)) (hk : ∀ q : Nat, q < H.size → ¬ va_A A H.size q → H1[q]? = H[q]?) (hF : ∀ q, va_A A H.size q → A0 q) (hP1 : va_P D cl A' H1) (hD1 : va_D (va_A A H.size) A') : va_P D cl (A' ++ B) H1 ∧ va_D A0 (A' ++ B) := by
  have hB : ∀ (k : Nat) (q : Nat × va_E), B[k]? = some q → (A ++ B)[A.length + k]? = some q := fun k q hq => by
    rw [List.getElem?_append_right (Nat.le_add_right _ _), Nat.add_sub_cancel_left]; exact hq
  have hA : ∀ (k : Nat) (q : Nat × va_E), A[k]? = some q → (A ++ B)[k]? = some q ∧ k < A.length := fun k q hq => by
    have hl := (List.getElem?_eq_some_iff.mp hq).1
    rw [List.getElem?_append_left hl]; exact ⟨hq, hl⟩
  have apart : ∀ (k : Nat) (q : Nat × va_E), B[k]? = some q → q.1 < H.size ∧ ¬ va_A A H.size q.1 := by
    intro k q hq
    have hl := (hP _ q (hB k q hq)).lt
    refine ⟨hl, fun h => ?_⟩
    rcases h with ⟨i, e, hi⟩ | h
    · have := hD.1 _ _ q (q.1, e) (hB k q hq) (hA i _ hi).1 rfl
      have := (hA i _ hi).2
      omega
    · omega
  refine ⟨va_P.app hP1 (fun k q hq => (hP _ q (hB k q hq)).kept (hk q.1 (apart k q hq).1 (apart k q hq).2)), va_D.app (hD1.weaken (fun k q _ h => hF q.1 h)) (partD_app hD).2 (fun i j x y hx hy hxy => ?_)⟩
  exact (apart j y hy).2 (by rw [← hxy]; exact hD1.2 i x hx)
theorem join2 {A0 : Nat → Prop} {D : va_G} {cl : List vw_C} {A B B' : va_W} {H H1 : Heap} (hP : va_P D cl (A ++ B) H) (hD : va_D A0 (A ++ B)) (hk : ∀ q : Nat, q < H.size → ¬ va_A B H.size q → H1[q]? = H[q]?) (hF : ∀ q, va_A B H.size q → A0 q) (hP1 : va_P D cl B' H1) (hD1 : va_D (va_A B H.size) B') : va_P D cl (A ++ B') H1 ∧ va_D A0 (A ++ B') := by
  have hB : ∀ (k : Nat) (q : Nat × va_E), B[k]? = some q → (A ++ B)[A.length + k]? = some q := fun k q hq => by
    rw [List.getElem?_append_right (Nat.le_add_right _ _), Nat.add_sub_cancel_left]; exact hq
  have hA : ∀ (k : Nat) (q : Nat × va_E), A[k]? = some q → (A ++ B)[k]? = some q ∧ k < A.length := fun k q hq => by
    have hl := (List.getElem?_eq_some_iff.mp hq).1
    rw [List.getElem?_append_left hl]; exact ⟨hq, hl⟩
  have apart : ∀ (k : Nat) (q : Nat × va_E), A[k]? = some q → q.1 < H.size ∧ ¬ va_A B H.size q.1 := by
    intro k q hq
    have hl := (hP _ q (hA k q hq).1).lt
    refine ⟨hl, fun h => ?_⟩
    rcases h with ⟨i, e, hi⟩ | h
    · have := hD.1 _ _ q (q.1, e) (hA k q hq).1 (hB i _ hi) rfl
      have := (hA k q hq).2
      omega
    · omega
  refine ⟨va_P.app (fun k q hq => (hP _ q (hA k q hq).1).kept (hk q.1 (apart k q hq).1 (apart k q hq).2)) hP1, va_D.app (partD_app hD).1 (hD1.weaken (fun k q _ h => hF q.1 h)) (fun i j x y hx hy hxy => ?_)⟩
  exact (apart i x hx).2 (by rw [hxy]; exact hD1.2 j y hy)
theorem freeP {A : Nat → Prop} {ws : va_W} {H0 H : Heap} (hD : va_D A ws) (hS : H0.size ≤ H.size) (hA : ∀ q, H0.size ≤ q → A q) : ∀ q, va_A ws H.size q → A q := by
  intro q h
  rcases h with ⟨k, e, h⟩ | h
  · exact hD.2 k (q, e) h
  · exact hA q (Nat.le_trans hS h)
abbrev LX : Type := Program × Launch × Env × State × MethodId × Nat × List Frame × Method × Code × va_G × (Nat → ClassId) × (Nat → Nat) × (Nat → Nat) × Nat × (Nat → Int32)
abbrev yp (Y : LX) : Program := Y.1
abbrev yl (Y : LX) : Launch := Y.2.1
abbrev ye (Y : LX) : Env := Y.2.2.1
abbrev ys (Y : LX) : State := Y.2.2.2.1
abbrev ym (Y : LX) : MethodId := Y.2.2.2.2.1
abbrev yb (Y : LX) : Nat := Y.2.2.2.2.2.1
abbrev ybl (Y : LX) : List Frame := Y.2.2.2.2.2.2.1
abbrev yh (Y : LX) : Method := Y.2.2.2.2.2.2.2.1
abbrev yc (Y : LX) : Code := Y.2.2.2.2.2.2.2.2.1
abbrev yD (Y : LX) : va_G := Y.2.2.2.2.2.2.2.2.2.1
abbrev yk (Y : LX) : Nat → ClassId := Y.2.2.2.2.2.2.2.2.2.2.1
abbrev yX (Y : LX) : Nat → Nat := Y.2.2.2.2.2.2.2.2.2.2.2.1
abbrev yM (Y : LX) : Nat → Nat := Y.2.2.2.2.2.2.2.2.2.2.2.2.1
abbrev yL (Y : LX) : Nat := Y.2.2.2.2.2.2.2.2.2.2.2.2.2.1
def yxs (Y : LX) : Nat → Int32 := Y.2.2.2.2.2.2.2.2.2.2.2.2.2.2
def OKL (Y : LX) : Prop := (yp Y).tables.exec = Jvm.exec ∧ (yc Y).code = code ∧ (yh Y).sig.returnType = ret ∧ (yc Y).maxLocals = 4 ∧ (ys Y).vm.findClass RL = some (ym Y).cls ∧ (∀ w ∈ lw_tbl, w.before #[Value.ref (yb Y)] (ys Y) = true) ∧ va_X (yb Y) (yL Y) (yxs Y) (ys Y) (ys Y).heap ∧ (yb Y) < (ys Y).heap.size ∧ (yh Y).locks = false ∧ va_K (yD Y) vwCl (tyL (yk Y)) (ys Y) ∧ NK (ys Y) ∧ yL Y ≤ 3072
def wsL (Y : LX) (σ τ : Mem) : va_W := wsOf SX (yk Y) (yX Y) σ ++ wsOf SM (yk Y) (yM Y) τ
def JL (Y : LX) (σ τ : Mem) (pc : Nat) (lv : List (Nat × Value)) (st : List Value) : Prop :=
  OKL Y → ∀ (H : Heap) (locs : List Loc) (ls : Array Slot), va_P (yD Y) vwCl (wsL Y σ τ) H → va_D (fun q => (ys Y).heap.size ≤ q) (wsL Y σ τ) → va_S (fun q => (ys Y).heap.size ≤ q) (ys Y).heap H locs → lv_has ls 4 lv →
    W (yp Y) (yl Y) (ye Y) room_1 (ys Y) (ym Y) #[Value.ref (yb Y)] (ybl Y) (yh Y) (yc Y) H locs 600000 7302250 (lw_Z (ybl Y) #[Value.ref (yb Y)] (ys Y)) (F0 (ym Y) pc ls st)
section QR
variable {Y : LX} {σ τ : Mem} {pc q : Nat} {lv : List (Nat × Value)} {st : List Value}
theorem q_iconst {n : Int} {v : Int32} (d : decode code pc = .ok (.iconst n, 1)) (hq : pc + 1 = q) (hv : Int32.ofInt n = v) (k : JL Y σ τ q lv (.int v :: st)) : JL Y σ τ pc lv st := by
  subst hq; intro hO H locs ls hP hD hS hl
  exact lv_iconst hO.1 hO.2.1 d hv (k hO H locs ls hP hD hS hl)
theorem q_bipush {n : Int} {v : Int32} (d : decode code pc = .ok (.bipush n, 2)) (hq : pc + 2 = q) (hv : (Int8.ofInt n).toInt32 = v) (k : JL Y σ τ q lv (.int v :: st)) : JL Y σ τ pc lv st := by
  subst hq; intro hO H locs ls hP hD hS hl
  exact lv_bipush hO.1 hO.2.1 d hv (k hO H locs ls hP hD hS hl)
theorem q_iadd {x y : Int32} (d : decode code pc = .ok (.iadd, 1)) (hq : pc + 1 = q) (k : JL Y σ τ q lv (.int (x + y) :: st)) : JL Y σ τ pc lv (.int y :: .int x :: st) := by
  subst hq; intro hO H locs ls hP hD hS hl
  exact lv_iadd hO.1 hO.2.1 d (k hO H locs ls hP hD hS hl)
theorem q_isub {x y : Int32} (d : decode code pc = .ok (.isub, 1)) (hq : pc + 1 = q) (k : JL Y σ τ q lv (.int (x - y) :: st)) : JL Y σ τ pc lv (.int y :: .int x :: st) := by
  subst hq; intro hO H locs ls hP hD hS hl
  exact lv_isub hO.1 hO.2.1 d (k hO H locs ls hP hD hS hl)
theorem q_iand {x y : Int32} (d : decode code pc = .ok (.iand, 1)) (hq : pc + 1 = q) (k : JL Y σ τ q lv (.int (x &&& y) :: st)) : JL Y σ τ pc lv (.int y :: .int x :: st) := by
  subst hq; intro hO H locs ls hP hD hS hl
  exact lv_iand hO.1 hO.2.1 d (k hO H locs ls hP hD hS hl)
theorem q_i2l {x : Int32} (d : decode code pc = .ok (.i2l, 1)) (hq : pc + 1 = q) (k : JL Y σ τ q lv (.long x.toInt64 :: st)) : JL Y σ τ pc lv (.int x :: st) := by
  subst hq; intro hO H locs ls hP hD hS hl
  exact lv_i2l hO.1 hO.2.1 d rfl (k hO H locs ls hP hD hS hl)
theorem q_lshl {x : Int64} {y : Int32} (d : decode code pc = .ok (.lshl, 1)) (hq : pc + 1 = q) (k : JL Y σ τ q lv (.long (x <<< (y.toInt64 &&& 63)) :: st)) : JL Y σ τ pc lv (.int y :: .long x :: st) := by
  subst hq; intro hO H locs ls hP hD hS hl
  exact lv_lshl hO.1 hO.2.1 d rfl (k hO H locs ls hP hD hS hl)
theorem q_land {x y : Int64} (d : decode code pc = .ok (.land, 1)) (hq : pc + 1 = q) (k : JL Y σ τ q lv (.long (x &&& y) :: st)) : JL Y σ τ pc lv (.long y :: .long x :: st) := by
  subst hq; intro hO H locs ls hP hD hS hl
  exact lv_land hO.1 hO.2.1 d (k hO H locs ls hP hD hS hl)
theorem q_lor {x y : Int64} (d : decode code pc = .ok (.lor, 1)) (hq : pc + 1 = q) (k : JL Y σ τ q lv (.long (x ||| y) :: st)) : JL Y σ τ pc lv (.long y :: .long x :: st) := by
  subst hq; intro hO H locs ls hP hD hS hl
  exact lv_lor hO.1 hO.2.1 d (k hO H locs ls hP hD hS hl)
theorem q_iload_n (j : Nat) {n : Fin 4} {i : Nat} {x : Int32} (d : decode code pc = .ok (.iload_n n, 1)) (hq : pc + 1 = q) (hi : (n : Nat) = i) (hj : lv[j]? = some (i, .int x)) (k : JL Y σ τ q lv (.int x :: st)) : JL Y σ τ pc lv st := by
  subst hq; intro hO H locs ls hP hD hS hl
  exact lv_iload_n hO.1 hO.2.1 d hi (lv_at hl j hj) (k hO H locs ls hP hD hS hl)
theorem q_aload_n (j : Nat) {n : Fin 4} {i : Nat} {x : Nat} (d : decode code pc = .ok (.aload_n n, 1)) (hq : pc + 1 = q) (hi : (n : Nat) = i) (hj : lv[j]? = some (i, .ref x)) (k : JL Y σ τ q lv (.ref x :: st)) : JL Y σ τ pc lv st := by
  subst hq; intro hO H locs ls hP hD hS hl
  exact lv_aload_n hO.1 hO.2.1 d hi (lv_at hl j hj) (k hO H locs ls hP hD hS hl)
theorem q_ldc2 {i : Nat} {v : Int64} (d : decode code pc = .ok (.ldc2_w i, 3)) (hq : pc + 3 = q) (hw : Jvm.Cond.constantLong RL i v ∈ BW) (k : JL Y σ τ q lv (.long v :: st)) : JL Y σ τ pc lv st := by
  subst hq; intro hO H locs ls hP hD hS hl
  exact lv_ldc2 hO.1 hO.2.1 hO.2.2.2.2.1 (hO.2.2.2.2.2.1 _ (bw_in _ hw)) d (k hO H locs ls hP hD hS hl)
theorem q_iinc (j : Nat) (lv2 : List (Nat × Value)) {i : Nat} {n : Int} {x y : Int32} (d : decode code pc = .ok (.iinc i n, 3)) (hq : pc + 3 = q) (hj : lv[j]? = some (i, .int x)) (hy : x + Int32.ofInt n = y) (hn : i < 4) (hv : (i, Value.int y) :: lv.filter (fun q => !(q.1 == i) && !(q.1 + 1 == i && q.2.category == 2)) = lv2) (k : JL Y σ τ q lv2 st) : JL Y σ τ pc lv st := by
  subst hq; intro hO H locs ls hP hD hS hl
  exact lv_iinc (v := y) (lv' := lv2) hO.1 hO.2.1 d hl hj hy hn hv (fun ls hl => k hO H locs ls hP hD hS hl)
theorem q_sub {lv2 : List (Nat × Value)} (ks : List Nat) (hv : lv_pick lv ks = lv2) (k : JL Y σ τ pc lv2 st) : JL Y σ τ pc lv st := by
  intro hO H locs ls hP hD hS hl
  exact k hO H locs ls hP hD hS (lv_sub hl ks hv)
theorem q_goto {off : Int} {tgt : Nat} (d : decode code pc = .ok (.goto off, 3)) (ht : (pc : Int) + off = (tgt : Int)) (k : JL Y σ τ tgt lv st) : JL Y σ τ pc lv st := by
  intro hO H locs ls hP hD hS hl
  exact lv_goto hO.1 hO.2.1 d ht (k hO H locs ls hP hD hS hl)
theorem q_icmpgt {x y : Int32} {off : Int} {tgt : Nat} (d : decode code pc = .ok (.if_icmp .gt off, 3)) (ht : (pc : Int) + off = (tgt : Int)) (hq : pc + 3 = q) (kt : y < x → JL Y σ τ tgt lv st) (kf : ¬ y < x → JL Y σ τ q lv st) : JL Y σ τ pc lv (.int y :: .int x :: st) := by
  subst hq; intro hO H locs ls hP hD hS hl
  exact lv_icmp_gt hO.1 hO.2.1 d ht (fun c => kt c hO H locs ls hP hD hS hl) (fun c => kf c hO H locs ls hP hD hS hl)
theorem q_eqT {x : Int32} {off : Int} {tgt : Nat} (d : decode code pc = .ok (.if_icmp .eq off, 3)) (ht : (pc : Int) + off = (tgt : Int)) (k : JL Y σ τ tgt lv st) : JL Y σ τ pc lv (.int x :: .int x :: st) := by
  intro hO H locs ls hP hD hS hl
  exact lv_icmp_eq hO.1 hO.2.1 d ht (fun _ => k hO H locs ls hP hD hS hl) (fun c => absurd rfl c)
theorem q_leqT {x : Int64} {off : Int} {tgt pc2 : Nat} (d : decode code pc = .ok (.lcmp, 1)) (hq : pc + 1 = pc2) (d2 : decode code pc2 = .ok (.ifCond .eq off, 3)) (ht : (pc2 : Int) + off = (tgt : Int)) (k : JL Y σ τ tgt lv st) : JL Y σ τ pc lv (.long x :: .long x :: st) := by
  subst hq; intro hO H locs ls hP hD hS hl
  have e : lg_cmp x x = 0 := by
    unfold lg_cmp
    rw [if_neg (show ¬ x > x from Int64.lt_irrefl), if_pos rfl]
  refine W.lcmp hO.1 hO.2.1 d ?_
  rw [e]
  exact lv_if_eq hO.1 hO.2.1 d2 ht (fun _ => k hO H locs ls hP hD hS hl) (fun c => absurd rfl c)
theorem q_tableOut {dflt lo hi : Int} {offs : Array Int} {len : Nat} {x : Int32} {tgt : Nat} (d : decode code pc = .ok (.tableswitch dflt lo hi offs, len)) (hx : x.toInt < lo ∨ hi < x.toInt) (ht : (pc : Int) + dflt = (tgt : Int)) (k : JL Y σ τ tgt lv st) : JL Y σ τ pc lv (.int x :: st) := by
  intro hO H locs ls hP hD hS hl
  exact lv_tableOut hO.1 hO.2.1 d hx ht (k hO H locs ls hP hD hS hl)
theorem q_tableIn {dflt lo hi : Int} {offs : Array Int} {len : Nat} {x : Int32} {off : Int} {tgt : Nat} (d : decode code pc = .ok (.tableswitch dflt lo hi offs, len)) (h1 : ¬ x.toInt < lo) (h2 : ¬ hi < x.toInt) (ho : offs[(x.toInt - lo).toNat]? = some off) (ht : (pc : Int) + off = (tgt : Int)) (k : JL Y σ τ tgt lv st) : JL Y σ τ pc lv (.int x :: st) := by
  intro hO H locs ls hP hD hS hl
  exact lv_tableIn hO.1 hO.2.1 d h1 h2 ho ht (k hO H locs ls hP hD hS hl)
theorem q_sld {i : Int32} (hi : vp_in i (yL Y)) (d : decode code pc = .ok (.iaload, 1)) (hq : pc + 1 = q) (k : JL Y σ τ q lv (.int (yxs Y i.toNatClampNeg) :: st)) : JL Y σ τ pc lv (.int i :: .ref (yb Y) :: st) := by
  subst hq; intro hO H locs ls hP hD hS hl
  exact va_sld hO.1 hO.2.1 hO.2.2.2.2.2.2.1 hO.2.2.2.2.2.2.2.1 (Nat.not_le.mpr hO.2.2.2.2.2.2.2.1) hS hi d (k hO H locs ls hP hD hS hl)
theorem q_slen (d : decode code pc = .ok (.arraylength, 1)) (hq : pc + 1 = q) (k : JL Y σ τ q lv (.int (Int32.ofNat (yL Y)) :: st)) : JL Y σ τ pc lv (.ref (yb Y) :: st) := by
  subst hq; intro hO H locs ls hP hD hS hl
  exact va_slen hO.1 hO.2.1 hO.2.2.2.2.2.2.1 hO.2.2.2.2.2.2.2.1 (Nat.not_le.mpr hO.2.2.2.2.2.2.2.1) hS d (k hO H locs ls hP hD hS hl)
theorem q_ret (d : decode code pc = .ok (.ireturn, 1)) : JL Y σ τ pc lv [.int 1] := by
  intro hO H locs ls hP hD hS hl
  refine va_forget (fun q hq => hS.2.2 q hq) ?_
  exact lw_ret hO.1 hO.2.1 hO.2.2.1 hO.2.2.2.2.2.2.2.2.1 d
theorem goodL {ws : List Cond} (h : GoodIn BW ws) : GoodIn lw_tbl ws := fun w hw => ⟨bw_in _ (h w hw).1, (h w hw).2⟩
theorem roomL {d' nl : Nat} (h : d' ≤ 40) (hn : nl ≤ 21) : (rmL d').frames + 1 ≤ room_1.frames ∧ 8 + (nl + 11) + (rmL d').locals ≤ room_1.locals := by
  show d' + 1 ≤ 2048 ∧ 8 + (nl + 11) + 50 * d' ≤ 84000
  omega
theorem q_callX {y : MethodName} {cb : ByteArray} {nl n d' idx : Nat} {ret' : Option FieldType} {as : (Nat → Nat) → List Value} {r : (Nat → Nat) → Option Value} {σ' : Mem} (As rest st2 : List Value) (hc : Con SX d' y cb nl ret' as σ r σ') (mv : MV RL idx RX8 y cb nl ret' n) (hd : d' ≤ 40) (has : as (yX Y) = .ref (yX Y 0) :: As) (hn : As.length = n) {st0 : List Value} (hst : st0 = As.reverse ++ .ref (yX Y 0) :: rest) (hr : (rest.map fun v => v.category).sum ≤ 8) (h2 : (r (yX Y)).toList ++ rest = st2) (d : decode code pc = .ok (.invokevirtual idx, 3)) (hq : pc + 3 = q) (kk : JL Y σ' τ q lv st2) : JL Y σ τ pc lv st0 := by
  subst hq; subst h2; intro hO H locs ls hP hD hS hl
  have hPp := part_app hP
  have hDp := partD_app hD
  have hK := hO.2.2.2.2.2.2.2.2.2.1
  have hF := freeP (H0 := (ys Y).heap) hDp.1 hS.1 (fun _ h => h)
  refine any_callA (mc := 0) (ms := 0) (r := r (yX Y)) (A1 := va_A (wsOf SX (yk Y) (yX Y) σ) H.size) (P := fun t => va_P (yD Y) vwCl (wsOf SX (yk Y) (yX Y) σ') t.heap ∧ va_D (va_A (wsOf SX (yk Y) (yX Y) σ) H.size) (wsOf SX (yk Y) (yX Y) σ')) (rest := rest) (free := va_A (wsOf SX (yk Y) (yX Y) σ) H.size)
    (va_runV (As := As) (rest := rest) ⟨hO.1, hO.2.1, hO.2.2.2.1, hO.2.2.2.2.1, hO.2.2.2.2.2.1⟩ (hc (yl Y) (yD Y) (yk Y) (yX Y) H.size) (cwV n hO.2.2.2.2.2.1 (goodL mv.1) rfl rfl rfl mv.2.1 (roomL hd mv.2.2)) ⟨blindC, va_recv hK hPp.1 (ci := 7) (q0 := 0) rfl (ws_at (o := 0) (sc := (0, 7, [(2, 1), (2, 2), (2, 3), (2, 4), (2, 5), (2, 6), (2, 15), (2, 16), (2, 17), (1, 0), (0, 0), (0, 0), (0, 0)])) rfl), fun U hU hW => ⟨by rw [has], by rw [hU], by rw [hU]; exact hPp.1, va_K.moved hW.alike hK, hDp.1.weaken (fun _ _ _ _ => trivial), hO.2.2.2.2.2.2.2.2.2.2.1.warm hW⟩⟩ rfl hn hl.1 hst (lv_room hr) d ⟨Nat.le_refl _, Nat.le_refl _⟩) hS hF hF (fun t H1 locs1 ht hPt hk hS1 => ?_)
  have hJ := join1 hP hD hk hF (by rw [← ht]; exact hPt.1) hPt.2
  exact kk hO H1 locs1 ls hJ.1 hJ.2 hS1 hl
theorem q_callM {y : MethodName} {cb : ByteArray} {nl n d' idx : Nat} {ret' : Option FieldType} {as : (Nat → Nat) → List Value} {r : (Nat → Nat) → Option Value} {τ' : Mem} (As rest st2 : List Value) (hc : Con SM d' y cb nl ret' as τ r τ') (mv : MV RL idx RX9 y cb nl ret' n) (hd : d' ≤ 40) (has : as (yM Y) = .ref (yM Y 0) :: As) (hn : As.length = n) {st0 : List Value} (hst : st0 = As.reverse ++ .ref (yM Y 0) :: rest) (hr : (rest.map fun v => v.category).sum ≤ 8) (h2 : (r (yM Y)).toList ++ rest = st2) (d : decode code pc = .ok (.invokevirtual idx, 3)) (hq : pc + 3 = q) (kk : JL Y σ τ' q lv st2) : JL Y σ τ pc lv st0 := by
  subst hq; subst h2; intro hO H locs ls hP hD hS hl
  have hPp := part_app hP
  have hDp := partD_app hD
  have hK := hO.2.2.2.2.2.2.2.2.2.1
  have hF := freeP (H0 := (ys Y).heap) hDp.2 hS.1 (fun _ h => h)
  refine any_callA (mc := 0) (ms := 0) (r := r (yM Y)) (A1 := va_A (wsOf SM (yk Y) (yM Y) τ) H.size) (P := fun t => va_P (yD Y) vwCl (wsOf SM (yk Y) (yM Y) τ') t.heap ∧ va_D (va_A (wsOf SM (yk Y) (yM Y) τ) H.size) (wsOf SM (yk Y) (yM Y) τ')) (rest := rest) (free := va_A (wsOf SM (yk Y) (yM Y) τ) H.size)
    (va_runV (As := As) (rest := rest) ⟨hO.1, hO.2.1, hO.2.2.2.1, hO.2.2.2.2.1, hO.2.2.2.2.2.1⟩ (hc (yl Y) (yD Y) (yk Y) (yM Y) H.size) (cwV n hO.2.2.2.2.2.1 (goodL mv.1) rfl rfl rfl mv.2.1 (roomL hd mv.2.2)) ⟨blindC, va_recv hK hPp.2 (ci := 8) (q0 := 0) rfl (ws_at (o := 0) (sc := (0, 8, [(0, 0), (0, 0), (0, 0), (0, 0), (2, 1), (2, 2), (2, 3), (2, 4), (1, 0), (0, 0), (0, 0), (0, 0), (2, 5), (2, 6), (2, 7), (0, 0), (0, 0), (1, 0), (1, 0), (0, 0), (2, 8), (2, 9), (0, 0), (2, 10), (2, 11), (2, 12), (2, 13), (2, 14), (2, 15), (2, 16), (2, 17), (2, 18), (0, 0), (0, 0), (0, 0), (2, 19), (2, 20), (2, 21), (2, 22), (2, 23), (2, 24), (0, 0), (0, 0), (0, 0), (2, 25), (2, 26), (2, 27), (2, 28), (2, 29), (2, 30), (2, 31), (0, 0)])) rfl), fun U hU hW => ⟨by rw [has], by rw [hU], by rw [hU]; exact hPp.2, va_K.moved hW.alike hK, hDp.2.weaken (fun _ _ _ _ => trivial), hO.2.2.2.2.2.2.2.2.2.2.1.warm hW⟩⟩ rfl hn hl.1 hst (lv_room hr) d ⟨Nat.le_refl _, Nat.le_refl _⟩) hS hF hF (fun t H1 locs1 ht hPt hk hS1 => ?_)
  have hJ := join2 hP hD hk hF (by rw [← ht]; exact hPt.1) hPt.2
  exact kk hO H1 locs1 ls hJ.1 hJ.2 hS1 hl
end QR

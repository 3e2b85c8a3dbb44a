/-! ===== THE LAW'S METHODS: the judgement JQ, over a world of the class's objects and of arrays, which grows ===== -/
/-- an array: of ints, of longs -/
abbrev AE : Type := (Nat × (Nat → Int32)) ⊕ (Nat × (Nat → Int64))
def aE (ca : Nat → ClassId) (a : AE) : va_E := match a with
  | .inl q => .inl (ca 0, q.1, .inl q.2)
  | .inr q => .inl (ca 2, q.1, .inr (.inl q.2))
def wsA (ca : Nat → ClassId) (b : Nat → Nat) (B : List AE) : va_W := B.mapIdx (fun i e => (b i, aE ca e))
def WC (ca : Nat → ClassId) (ad : Nat → Nat) (s : Option Mem) : va_W := match s with
  | none => []
  | some σ => wsOf SX ca ad σ
def wsQ (ca : Nat → ClassId) (ad : Nat → Nat) (s : Option Mem) (b : Nat → Nat) (B : List AE) : va_W := WC ca ad s ++ wsA ca b B
/-- a walk's context: the machine's; the script; the room; what the end is; where the arrays lay at the entry -/
abbrev QX : Type := CX × (Nat × Nat × (Nat → Int32)) × Room × (State → Prop) × (Nat → Nat)
abbrev qX (Y : QX) : CX := Y.1
abbrev qb (Y : QX) : Nat := Y.2.1.1
abbrev qL (Y : QX) : Nat := Y.2.1.2.1
def qs (Y : QX) : Nat → Int32 := Y.2.1.2.2
abbrev qR (Y : QX) : Room := Y.2.2.1
abbrev qF (Y : QX) : State → Prop := Y.2.2.2.1
def qi (Y : QX) : Nat → Nat := Y.2.2.2.2
/-- a method: its code, its locals, its answer's type, how deep it calls, how many arrays it makes at most -/
abbrev MQD : Type := ByteArray × Nat × Option FieldType × Nat × Nat
def rmQ (d N : Nat) : Room := { frames := d, cells := N, slots := 12 * N, locals := 50 * d }
def OKQ (Y : QX) (M : MQD) : Prop := (xp (qX Y)).tables.exec = Jvm.exec ∧ (xc (qX Y)).code = M.1 ∧ (xh (qX Y)).sig.returnType = M.2.2.1 ∧ (xc (qX Y)).maxLocals = M.2.1 ∧ (xs (qX Y)).vm.findClass RL = some (xm (qX Y)).cls ∧ (∀ w ∈ BW, w.before (xa (qX Y)) (xs (qX Y)) = true) ∧ (xh (qX Y)).locks = false ∧ va_K (xD (qX Y)) vwCl (tyL (xk (qX Y))) (xs (qX Y)) ∧ NK (xs (qX Y)) ∧ (∀ q, (xs (qX Y)).heap.size ≤ q → xA (qX Y) q) ∧ va_X (qb Y) (qL Y) (qs Y) (xs (qX Y)) (xs (qX Y)).heap ∧ qb Y < (xs (qX Y)).heap.size ∧ ¬ xA (qX Y) (qb Y) ∧ M.2.2.2.1 ≤ (qR Y).frames ∧ M.2.2.2.2 ≤ (qR Y).cells ∧ 12 * M.2.2.2.2 ≤ (qR Y).slots ∧ 50 * M.2.2.2.1 ≤ (qR Y).locals
def JQ (Y : QX) (M : MQD) (s : Option Mem) (io : List Nat) (B : List AE) (n : Nat) (pc : Nat) (lv : (Nat → Nat) → List (Nat × Value)) (st : (Nat → Nat) → List Value) : Prop :=
  OKQ Y M → n ≤ M.2.2.2.2 → ∀ b : Nat → Nat, (∀ k, k < io.length → b (io.getD k 0) = qi Y k) → ∀ (H : Heap) (locs : List Loc) (ls : Array Slot), va_P (xD (qX Y)) vwCl (wsQ (xk (qX Y)) (xad (qX Y)) s b B) H → va_D (xA (qX Y)) (wsQ (xk (qX Y)) (xad (qX Y)) s b B) → va_S (xA (qX Y)) (xs (qX Y)).heap H locs → lv_has ls M.2.1 (lv b) →
    W (xp (qX Y)) (xl (qX Y)) (xe (qX Y)) (qR Y) (xs (qX Y)) (xm (qX Y)) (xa (qX Y)) (xb (qX Y)) (xh (qX Y)) (xc (qX Y)) H locs n (12 * n) (qF Y) (F0 (xm (qX Y)) pc ls (st b))
/-- the end: at the instruction that returns -/
def EndQ (Y : QX) (M : MQD) (op : Instr) (io : List Nat) (s : Option Mem) (B : List AE) (r : (Nat → Nat) → List Value) : Prop := ∀ (n pc : Nat) (lv : (Nat → Nat) → List (Nat × Value)), decode M.1 pc = .ok (op, 1) → JQ Y M s io B n pc lv r
def ConQ (op : Instr) (d N : Nat) (y : MethodName) (cc : ByteArray) (nl : Nat) (ret : Option FieldType) (L : Nat) (xs : Nat → Int32) (as : (Nat → Nat) → (Nat → Nat) → Nat → List Value) (C : List AE) (s : Option Mem) (r : (Nat → Nat) → Value) (C' : List AE) (s' : Option Mem) : Prop :=
  ∀ (l : Launch) (D : va_G) (ca : Nat → ClassId) (ad b : Nat → Nat) (b0 sz : Nat), Met l y (.code y cc nl ret :: BW) (rmQ d N) (va_Pc (as b ad b0) (fun U => U.heap.size = sz ∧ va_P D vwCl (wsQ ca ad s b C) U.heap ∧ va_K D vwCl (tyL ca) U ∧ va_D (fun _ => True) (wsQ ca ad s b C) ∧ NK U ∧ va_X b0 L xs U U.heap ∧ b0 < sz ∧ ¬ va_A (wsQ ca ad s b C) sz b0))
    (fun _ st oc t => (∃ b' : Nat → Nat, oc = .returned (some (r b')) ∧ (∀ k, k < C.length → b' k = b k) ∧ va_P D vwCl (wsQ ca ad s' b' C') t.heap ∧ va_D (va_A (wsQ ca ad s b C) sz) (wsQ ca ad s' b' C')) ∧ va_F (va_A (wsQ ca ad s b C) sz) st t) N (12 * N) (va_A (wsQ ca ad s b C) sz)
theorem range_getD {m k : Nat} (h : k < m) : (List.range m).getD k 0 = k := by
  rw [List.getD_eq_getElem?_getD, List.getElem?_range h]; rfl
theorem endQ_of {Y : QX} {M : MQD} {op : Instr} {ret : FieldType} {m : Nat} {s : Option Mem} {B : List AE} {r : (Nat → Nat) → Value} (hret : M.2.2.1 = some ret) (hv : (op = .ireturn ∧ ((ret = .int ∧ ∀ b, ∃ v, r b = .int v) ∨ (ret = .boolean ∧ ∀ b, r b = .int 0 ∨ r b = .int 1))) ∨ (op = .areturn ∧ (∃ e, ret = .array e) ∧ ∀ b, ∃ q, r b = .ref q))
    (hQ : qF Y = MQ (xb (qX Y)) (xQ (qX Y)) (xa (qX Y)) (xs (qX Y)) M.2.2.2.2 (12 * M.2.2.2.2) (xA (qX Y)))
    (hE : ∀ (b : Nat → Nat) (t : State) (H : Heap) (locs : List Loc), (∀ k, k < m → b k = qi Y k) → t.heap = H → va_P (xD (qX Y)) vwCl (wsQ (xk (qX Y)) (xad (qX Y)) s b B) H → va_D (xA (qX Y)) (wsQ (xk (qX Y)) (xad (qX Y)) s b B) → va_S (xA (qX Y)) (xs (qX Y)).heap H locs → xQ (qX Y) (xa (qX Y)) (xs (qX Y)) (.returned (some (r b))) t) : EndQ Y M op (List.range m) s B (fun b => [r b]) := by
  intro n pc lv d hO hn b hio H locs ls hP hD hS hl
  have hag : ∀ k, k < m → b k = qi Y k := fun k hk => by
    have h1 := hio k (by rw [List.length_range]; exact hk)
    rw [range_getD hk] at h1
    exact h1
  rw [hQ]
  refine W.widen (k := M.2.2.2.2) (n := 12 * M.2.2.2.2) hn (Nat.mul_le_mul_left 12 hn) ?_
  rcases hv with ⟨rfl, hv⟩ | ⟨rfl, he, hv⟩
  · rcases hv with ⟨rfl, hv⟩ | ⟨rfl, hv⟩
    · obtain ⟨v, hv⟩ := hv b
      show W _ _ _ _ _ _ _ _ _ _ _ _ _ _ _ (F0 _ pc ls [r b])
      rw [hv]
      refine W.iret hO.1 hO.2.1 (hO.2.2.1.trans hret) (fun t ht hW => ?_) hS.2.2 d hO.2.2.2.2.2.2.1
      rw [← hv]
      exact hE b t H locs hag ht hP hD hS
    · have hz : ∃ v : Int32, r b = .int v ∧ narrow .boolean (.int v) = .int v := by
        rcases hv b with h | h
        · exact ⟨0, h, by decide +kernel⟩
        · exact ⟨1, h, by decide +kernel⟩
      obtain ⟨v, hv, hn⟩ := hz
      show W _ _ _ _ _ _ _ _ _ _ _ _ _ _ _ (F0 _ pc ls [r b])
      rw [hv]
      refine W.zret hO.1 hO.2.1 (hO.2.2.1.trans hret) hn (fun t ht hW => ?_) hS.2.2 d hO.2.2.2.2.2.2.1
      rw [← hv]
      exact hE b t H locs hag ht hP hD hS
  · obtain ⟨e, rfl⟩ := he
    obtain ⟨q, hv⟩ := hv b
    show W _ _ _ _ _ _ _ _ _ _ _ _ _ _ _ (F0 _ pc ls [r b])
    rw [hv]
    refine W.aret hO.1 hO.2.1 (hO.2.2.1.trans hret) (Or.inr ⟨e, rfl⟩) (Or.inr ⟨_, rfl⟩) (fun t ht hW => ?_) hS.2.2 d hO.2.2.2.2.2.2.1
    rw [← hv]
    exact hE b t H locs hag ht hP hD hS
theorem conQ_of {op : Instr} {d N : Nat} {y : MethodName} {cc : ByteArray} {nl : Nat} {rt : FieldType} {L : Nat} {xs0 : Nat → Int32} {as : (Nat → Nat) → (Nat → Nat) → Nat → List Value} {C C' : List AE} {s s' : Option Mem} {r : (Nat → Nat) → Value} (hy : plainName y.cls = true) (hyc : y.cls = RL) (hlen : ∀ b ad b0, (lg_sl (as b ad b0)).length ≤ nl)
    (hv : (op = .ireturn ∧ ((rt = .int ∧ ∀ b, ∃ v, r b = .int v) ∨ (rt = .boolean ∧ ∀ b, r b = .int 0 ∨ r b = .int 1))) ∨ (op = .areturn ∧ (∃ e, rt = .array e) ∧ ∀ b, ∃ q, r b = .ref q))
    (body : ∀ Y : QX, qL Y = L → qs Y = xs0 → EndQ Y (cc, nl, some rt, d, N) op (List.range C.length) s' C' (fun b => [r b]) → JQ Y (cc, nl, some rt, d, N) s (List.range C.length) C 0 0 (fun b => lv_args 0 (as b (xad (qX Y)) (qb Y))) (fun _ => [])) : ConQ op d N y cc nl (some rt) L xs0 as C s r C' s' := by
  intro l D ca ad b b0 sz
  refine Met.ofW (cc := cc) (maxL := nl) (ret := some rt) hy rfl ?_
  intro p e s0 m args below meth c s₁ Bo hml hv0
  obtain ⟨rfl, hsz, hP, hK, hD0, hN, hX, hb0, hnA⟩ := hv0
  have hx := Bo.exec
  have hb := Bo.bytes
  have hr := Bo.returns
  have hts := atoms_spec (ws := .code y cc nl (some rt) :: BW) Bo.pre
  have hown : s0.vm.findClass RL = some m.cls := by rw [← hyc]; exact findClass_of_methodNamed Bo.named
  have hlocks := Bo.notSynchronized
  subst hsz
  have hD := hD0.self (sz := s0.heap.size)
  have hl := lv_entry (as b ad b0) (n := nl) (hlen b ad b0)
  rw [lg_entry_eq]
  have hM := body (((p, l, e, s0, m, (as b ad b0).toArray, below, meth, c, (fun _ st oc t => (∃ b' : Nat → Nat, oc = .returned (some (r b')) ∧ (∀ k, k < C.length → b' k = b k) ∧ va_P D vwCl (wsQ ca ad s' b' C') t.heap ∧ va_D (va_A (wsQ ca ad s b C) s0.heap.size) (wsQ ca ad s' b' C')) ∧ va_F (va_A (wsQ ca ad s b C) s0.heap.size) st t), D, ca, ad, va_A (wsQ ca ad s b C) s0.heap.size) : CX), (b0, L, xs0), rmQ d N, MQ below (fun _ st oc t => (∃ b' : Nat → Nat, oc = .returned (some (r b')) ∧ (∀ k, k < C.length → b' k = b k) ∧ va_P D vwCl (wsQ ca ad s' b' C') t.heap ∧ va_D (va_A (wsQ ca ad s b C) s0.heap.size) (wsQ ca ad s' b' C')) ∧ va_F (va_A (wsQ ca ad s b C) s0.heap.size) st t) (as b ad b0).toArray s0 N (12 * N) (va_A (wsQ ca ad s b C) s0.heap.size), b) rfl rfl (endQ_of (ret := rt) (m := C.length) rfl hv rfl (fun b1 t H locs hag ht hP1 hD1 hS1 => ⟨⟨b1, rfl, hag, by rw [ht]; exact hP1, hD1⟩, hS1.F ht⟩))
  exact hM ⟨hx, hb, hr, hml, hown, fun w hw => hts w (List.mem_cons_of_mem _ hw), hlocks, hK, hN, fun q h => Or.inr h, hX, hb0, hnA, Nat.le_refl _, Nat.le_refl _, Nat.le_refl _, Nat.le_refl _⟩ (Nat.zero_le _) b (fun k hk => by rw [List.length_range] at hk; rw [range_getD hk]; rfl) s0.heap [] _ hP hD va_S.rf hl
/-! a callee's world, and what the caller keeps beside it -/
theorem part_app {D : va_G} {cl : List vw_C} {A B : va_W} {H : Heap} (hP : va_P D cl (A ++ B) H) : va_P D cl A H ∧ va_P D cl B H := by
  refine ⟨fun k q hq => hP k q ?_, fun k q hq => hP (A.length + k) q ?_⟩
  · rw [List.getElem?_append_left (List.getElem?_eq_some_iff.mp hq).1]; exact hq
  · rw [List.getElem?_append_right (Nat.le_add_right _ _), Nat.add_sub_cancel_left]; exact hq
theorem partD_app {A0 : Nat → Prop} {A B : va_W} (hD : va_D A0 (A ++ B)) : va_D A0 A ∧ va_D A0 B := by
  have hA : ∀ (k : Nat) (q : Nat × va_E), A[k]? = some q → (A ++ B)[k]? = some q := fun k q hq => by
    rw [List.getElem?_append_left (List.getElem?_eq_some_iff.mp hq).1]; exact hq
  have hB : ∀ (k : Nat) (q : Nat × va_E), B[k]? = some q → (A ++ B)[A.length + k]? = some q := fun k q hq => by
    rw [List.getElem?_append_right (Nat.le_add_right _ _), Nat.add_sub_cancel_left]; exact hq
  exact ⟨⟨fun i j p q hp hq e => hD.1 i j p q (hA i p hp) (hA j q hq) e, fun k q hq => hD.2 k q (hA k q hq)⟩, ⟨fun i j p q hp hq e => by have := hD.1 _ _ p q (hB i p hp) (hB j q hq) e; omega, fun k q hq => hD.2 _ q (hB k q hq)⟩⟩
theorem join1 {A0 : Nat → Prop} {D : va_G} {cl : List vw_C} {A B A' : va_W} {H H1 : Heap} (hP : va_P D cl (A ++ B) H) (hD : va_D A0 (A ++ B)) (hk : ∀ q : Nat, q < H.size → ¬ va_A A H.size q → H1[q]? = H[q]?) (hF : ∀ q, va_A A H.size q → A0 q) (hP1 : va_P D cl A' H1) (hD1 : va_D (va_A A H.size) A') : va_P D cl (A' ++ B) H1 ∧ va_D A0 (A' ++ B) := by
  have hB : ∀ (k : Nat) (q : Nat × va_E), B[k]? = some q → (A ++ B)[A.length + k]? = some q := fun k q hq => by
    rw [List.getElem?_append_right (Nat.le_add_right _ _), Nat.add_sub_cancel_left]; exact hq
  have hA : ∀ (k : Nat) (q : Nat × va_E), A[k]? = some q → (A ++ B)[k]? = some q ∧ k < A.length := fun k q hq => by
    have hl := (List.getElem?_eq_some_iff.mp hq).1
    rw [List.getElem?_append_left hl]; exact ⟨hq, hl⟩
  have apart : ∀ (k : Nat) (q : Nat × va_E), B[k]? = some q → q.1 < H.size ∧ ¬ va_A A H.size q.1 := by
    intro k q hq
    have hl := (hP _ q (hB k q hq)).lt
    refine ⟨hl, fun h => ?_⟩
    rcases h with ⟨i, e, hi⟩ | h
    · have := hD.1 _ _ q (q.1, e) (hB k q hq) (hA i _ hi).1 rfl
      have := (hA i _ hi).2
      omega
    · omega
  refine ⟨va_P.app hP1 (fun k q hq => (hP _ q (hB k q hq)).kept (hk q.1 (apart k q hq).1 (apart k q hq).2)), va_D.app (hD1.weaken (fun k q _ h => hF q.1 h)) (partD_app hD).2 (fun i j x y hx hy hxy => ?_)⟩
  exact (apart j y hy).2 (by rw [← hxy]; exact hD1.2 i x hx)
theorem join2 {A0 : Nat → Prop} {D : va_G} {cl : List vw_C} {A B B' : va_W} {H H1 : Heap} (hP : va_P D cl (A ++ B) H) (hD : va_D A0 (A ++ B)) (hk : ∀ q : Nat, q < H.size → ¬ va_A B H.size q → H1[q]? = H[q]?) (hF : ∀ q, va_A B H.size q → A0 q) (hP1 : va_P D cl B' H1) (hD1 : va_D (va_A B H.size) B') : va_P D cl (A ++ B') H1 ∧ va_D A0 (A ++ B') := by
  have hB : ∀ (k : Nat) (q : Nat × va_E), B[k]? = some q → (A ++ B)[A.length + k]? = some q := fun k q hq => by
    rw [List.getElem?_append_right (Nat.le_add_right _ _), Nat.add_sub_cancel_left]; exact hq
  have hA : ∀ (k : Nat) (q : Nat × va_E), A[k]? = some q → (A ++ B)[k]? = some q ∧ k < A.length := fun k q hq => by
    have hl := (List.getElem?_eq_some_iff.mp hq).1
    rw [List.getElem?_append_left hl]; exact ⟨hq, hl⟩
  have apart : ∀ (k : Nat) (q : Nat × va_E), A[k]? = some q → q.1 < H.size ∧ ¬ va_A B H.size q.1 := by
    intro k q hq
    have hl := (hP _ q (hA k q hq).1).lt
    refine ⟨hl, fun h => ?_⟩
    rcases h with ⟨i, e, hi⟩ | h
    · have := hD.1 _ _ q (q.1, e) (hA k q hq).1 (hB i _ hi) rfl
      have := (hA k q hq).2
      omega
    · omega
  refine ⟨va_P.app (fun k q hq => (hP _ q (hA k q hq).1).kept (hk q.1 (apart k q hq).1 (apart k q hq).2)) hP1, va_D.app (partD_app hD).1 (hD1.weaken (fun k q _ h => hF q.1 h)) (fun i j x y hx hy hxy => ?_)⟩
  exact (apart i x hx).2 (by rw [hxy]; exact hD1.2 j y hy)
theorem freeP {A : Nat → Prop} {ws : va_W} {H0 H : Heap} (hD : va_D A ws) (hS : H0.size ≤ H.size) (hA : ∀ q, H0.size ≤ q → A q) : ∀ q, va_A ws H.size q → A q := by
  intro q h
  rcases h with ⟨k, e, h⟩ | h
  · exact hD.2 k (q, e) h
  · exact hA q (Nat.le_trans hS h)
/-! worlds of arrays -/
theorem wsA_len (ca : Nat → ClassId) (b : Nat → Nat) (B : List AE) : (wsA ca b B).length = B.length := by simp [wsA]
theorem wsA_at {ca : Nat → ClassId} {b : Nat → Nat} {B : List AE} {o : Nat} {e : AE} (h : B[o]? = some e) : (wsA ca b B)[o]? = some (b o, aE ca e) := by
  simp [wsA, List.getElem?_mapIdx, h]
theorem wsQ_at {ca : Nat → ClassId} {ad : Nat → Nat} {s : Option Mem} {b : Nat → Nat} {B : List AE} {o : Nat} {e : AE} (h : B[o]? = some e) : (wsQ ca ad s b B)[(WC ca ad s).length + o]? = some (b o, aE ca e) := by
  unfold wsQ
  rw [List.getElem?_append_right (Nat.le_add_right _ _), Nat.add_sub_cancel_left]
  exact wsA_at h
theorem wsA_set {ca : Nat → ClassId} {b : Nat → Nat} {B : List AE} {o : Nat} {e : AE} : (wsA ca b B).set o (b o, aE ca e) = wsA ca b (B.set o e) := by
  apply List.ext_getElem?
  intro i
  rw [List.getElem?_set, wsA_len]
  simp only [wsA, List.getElem?_mapIdx]
  rw [List.getElem?_set]
  by_cases hi : o = i
  · subst hi
    rw [if_pos rfl, if_pos rfl]
    by_cases hl : o < B.length
    · rw [if_pos hl, if_pos hl]; rfl
    · rw [if_neg hl, if_neg hl]; rfl
  · rw [if_neg hi, if_neg hi]
theorem wsQ_set {ca : Nat → ClassId} {ad : Nat → Nat} {s : Option Mem} {b : Nat → Nat} {B : List AE} {o : Nat} {e : AE} : (wsQ ca ad s b B).set ((WC ca ad s).length + o) (b o, aE ca e) = wsQ ca ad s b (B.set o e) := by
  unfold wsQ
  rw [List.set_append_right _ _ (Nat.le_add_right _ _), Nat.add_sub_cancel_left, wsA_set]
theorem wsA_cong {ca : Nat → ClassId} {b b' : Nat → Nat} {B : List AE} (h : ∀ k, k < B.length → b' k = b k) : wsA ca b' B = wsA ca b B := by
  apply List.ext_getElem?
  intro i
  simp only [wsA, List.getElem?_mapIdx]
  by_cases hi : i < B.length
  · rw [List.getElem?_eq_getElem hi]
    show some (b' i, _) = some (b i, _)
    rw [h i hi]
  · rw [List.getElem?_eq_none (by omega)]; rfl
theorem wsA_app {ca : Nat → ClassId} {b : Nat → Nat} {B C : List AE} : wsA ca b (B ++ C) = wsA ca b B ++ wsA ca (fun i => b (B.length + i)) C := by
  apply List.ext_getElem?
  intro i
  by_cases hi : i < B.length
  · rw [List.getElem?_append_left (by rw [wsA_len]; exact hi)]
    simp only [wsA, List.getElem?_mapIdx, List.getElem?_append_left hi]
  · rw [List.getElem?_append_right (by rw [wsA_len]; omega), wsA_len]
    simp only [wsA, List.getElem?_mapIdx]
    rw [List.getElem?_append_right (by omega), show B.length + (i - B.length) = i by omega]
/-- addresses: the old ones below m, others from there on -/
def cut (m : Nat) (b c : Nat → Nat) (k : Nat) : Nat := if k < m then b k else c k
theorem cut_lt {m k : Nat} {b c : Nat → Nat} (h : k < m) : cut m b c k = b k := if_pos h
theorem cut_ge {m k : Nat} {b c : Nat → Nat} (h : m ≤ k) : cut m b c k = c k := if_neg (by omega)
def zI : Nat → Int32 := fun _ => 0
def zL : Nat → Int64 := fun _ => 0
/-- room taken: so many arrays' -/
def al {R : Type} (N n c : Nat) (f : Nat → Option R) : Option R := if n + c ≤ N then f (n + c) else none
theorem al_of {R : Type} {out : R} {N n c : Nat} {f : Nat → Option R} (h : al N n c f = some out) : n + c ≤ N ∧ f (n + c) = some out := by
  unfold al at h
  by_cases hc : n + c ≤ N
  · rw [if_pos hc] at h; exact ⟨hc, h⟩
  · rw [if_neg hc] at h; cases h
def stA {R : Type} (i : Int32) (n : Nat) (f : Nat → Int32) (v : Int32) (g : (Nat → Int32) → Option R) : Option R := rd i n fun j => g (upd f j v)
def stB {R : Type} (i : Int32) (n : Nat) (f : Nat → Int64) (v : Int64) (g : (Nat → Int64) → Option R) : Option R := rd i n fun j => g (vp_updL f j v)
def bn {α R : Type} (x : Option α) (f : α → Option R) : Option R := match x with
  | none => none
  | some p => f p
theorem bn_of {α R : Type} {out : R} {x : Option α} {f : α → Option R} (h : bn x f = some out) : ∃ o, x = some o ∧ f o = some out := by
  cases x with
  | none => cases h
  | some p => exact ⟨p, rfl, h⟩
theorem bn_some {α R : Type} (a : α) (f : α → Option R) : bn (some a) f = f a := rfl
def rb {R : Type} (v : Int32) (x : R) : Option R := if v = 0 ∨ v = 1 then some x else none
/-- a call's end, its answer by what is found -/
theorem any_callE {p : Program} {l : Launch} {e : Env} {R : Room} {s : State} {m : MethodId} {args : Array Value} {below : List Frame} {meth : Method} {c : Code} {H : Heap} {locs : List Loc} {Q : State → Prop} {cells slots mc ms pc : Nat} {ls : Array Slot} {rest st0 : List Value} {A0 A1 : Nat → Prop} {H0 : Heap} {free : Addr → Prop} {ι : Type} {r : ι → Option Value} {P : ι → State → Prop}
    (hr : va_Run p l e R s m args below meth c H locs cells slots mc ms (F0 m pc ls st0) rest (fun st oc t => (∃ i, oc = .returned (r i) ∧ P i t) ∧ va_F A1 st t) free) (hS : va_S A0 H0 H locs) (hA : ∀ q, A1 q → A0 q) (hf : ∀ q, free q → A0 q)
    (kk : ∀ (i : ι) (t : State) (H1 : Heap) (locs1 : List Loc), t.heap = H1 → P i t → (∀ q : Nat, q < H.size → ¬ A1 q → H1[q]? = H[q]?) → va_S A0 H0 H1 locs1 → W p l e R s m args below meth c H1 locs1 (cells + mc) (slots + ms) Q (F0 m (pc + 3) ls ((r i).toList ++ rest))) : W p l e R s m args below meth c H locs cells slots Q (F0 m pc ls st0) := by
  intro T hT X
  obtain ⟨v, st₀, t, T', L, h0, X', hL, e1, e2, ⟨⟨i, hv, hb⟩, hz, hk⟩, st⟩ := hr T hT X
  cases hv
  rw [h0] at hz hk
  obtain ⟨t2, a1, b1⟩ := kk i t T'.heap (locs ++ L) e1.symm hb (fun q h1 h2 => by rw [e1]; exact hk q h1 h2)
    ⟨Nat.le_trans hS.1 (by rw [e1]; exact hz), fun q h1 h2 => by rw [e1, hk q (Nat.lt_of_lt_of_le h1 hS.1) (fun z => h2 (hA q z))]; exact hS.2.1 q h1 h2, fun q hq => by
      rcases List.mem_append.mp hq with h | h
      · exact hS.2.2 q h
      · exact hf _ (hL q h)⟩ T' rfl X'
  exact ⟨t2, st t2 a1, b1⟩
theorem goodL {ws : List Cond} (h : GoodIn BW ws) : GoodIn lw_tbl ws := fun w hw => ⟨bw_in _ (h w hw).1, (h w hw).2⟩

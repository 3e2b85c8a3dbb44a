/-! ===== CONSTRUCTORS: the judgement JA, whose world grows ===== -/
/-- a constructor: its code, its class, its locals, how deep it calls, the cells and the slots that it makes, how many cells there are at its entry -/
abbrev MA : Type := ByteArray × String × Nat × Nat × Nat × Nat × Nat
def rmA (d mc ms : Nat) : Room := { frames := d, cells := mc, slots := ms, locals := 50 * d }
def OKA (X : CX) (M : MA) : Prop := (xp X).tables.exec = Jvm.exec ∧ (xc X).code = M.1 ∧ (xh X).sig.returnType = none ∧ (xc X).maxLocals = M.2.2.1 ∧ (xs X).vm.findClass M.2.1 = some (xm X).cls ∧ (∀ w ∈ BW, w.before (xa X) (xs X) = true) ∧ (xh X).locks = false ∧ va_K (xD X) vwCl (tyL (xk X)) (xs X) ∧ NK (xs X) ∧ (∀ q, (xs X).heap.size ≤ q → xA X q) ∧ va_AO "IceYard$Sheet" (xs X) ∧ (xh X).name = "<init>"
def JA (X : CX) (S : List SC) (ad : Nat → Nat) (M : MA) (σ : Mem) (ce sl : Nat) (pc : Nat) (lv : List (Nat × Value)) (st : List Value) : Prop :=
  OKA X M → (∀ k, k < M.2.2.2.2.2.2 → ad k = xad X k) → ∀ (H : Heap) (locs : List Loc) (ls : Array Slot), va_P (xD X) vwCl (wsOf S (xk X) ad σ) H → va_D (xA X) (wsOf S (xk X) ad σ) → va_S (xA X) (xs X).heap H locs → lv_has ls M.2.2.1 lv →
    W (xp X) (xl X) (xe X) (rmA M.2.2.2.1 M.2.2.2.2.1 M.2.2.2.2.2.1) (xs X) (xm X) (xa X) (xb X) (xh X) (xc X) H locs ce sl (MQ (xb X) (xQ X) (xa X) (xs X) M.2.2.2.2.1 M.2.2.2.2.2.1 (xA X)) (F0 (xm X) pc ls st)
def EndA (X : CX) (n0 : Nat) (S : List SC) (σ : Mem) : Prop := ∀ (ad : Nat → Nat) (t : State) (H : Heap) (locs : List Loc), (∀ k, k < n0 → ad k = xad X k) → t.heap = H → va_P (xD X) vwCl (wsOf S (xk X) ad σ) H → va_D (xA X) (wsOf S (xk X) ad σ) → va_S (xA X) (xs X).heap H locs → xQ X (xa X) (xs X) (.returned none) t
def ConA (d mc ms : Nat) (y : MethodName) (cc : ByteArray) (nL : Nat) (S S' : List SC) (as : (Nat → Nat) → List Value) (σ σ' : Mem) : Prop :=
  ∀ (l : Launch) (D : va_G) (ca : Nat → ClassId) (ad : Nat → Nat) (sz : Nat), Met l y (.code y cc nL none :: BW) (rmA d mc ms) (va_Pc (as ad) (fun U => U.heap.size = sz ∧ va_P D vwCl (wsOf S ca ad σ) U.heap ∧ va_K D vwCl (tyL ca) U ∧ va_D (fun _ => True) (wsOf S ca ad σ) ∧ NK U ∧ va_AO "IceYard$Sheet" U))
    (fun _ st oc t => (oc = .returned none ∧ ∃ ad', (∀ k, k < S.length → ad' k = ad k) ∧ va_P D vwCl (wsOf S' ca ad' σ') t.heap ∧ va_D (va_A (wsOf S ca ad σ) sz) (wsOf S' ca ad' σ')) ∧ va_F (va_A (wsOf S ca ad σ) sz) st t) mc ms (va_A (wsOf S ca ad σ) sz)
theorem conA_of {d mc ms : Nat} {y : MethodName} {cc : ByteArray} {nL : Nat} {S S' : List SC} {as : (Nat → Nat) → List Value} {σ σ' : Mem} (hy : plainName y.cls = true) (hi : y.name = "<init>") (hlen : ∀ ad, (lg_sl (as ad)).length ≤ nL)
    (body : ∀ X : CX, EndA X S.length S' σ' → JA X S (xad X) (cc, y.cls, nL, d, mc, ms, S.length) σ 0 0 0 (lv_args 0 (as (xad X))) []) : ConA d mc ms y cc nL S S' as σ σ' := by
  intro l D ca ad sz
  refine Met.ofW (cc := cc) (maxL := nL) (ret := none) hy rfl ?_
  intro p e s m args below meth c s₁ B hml hv
  obtain ⟨rfl, hsz, hP, hK, hD0, hN, hAO⟩ := hv
  have hx := B.exec
  have hb := B.bytes
  have hr := B.returns
  have hts := atoms_spec (ws := .code y cc nL none :: BW) B.pre
  have hown : s.vm.findClass y.cls = some m.cls := findClass_of_methodNamed B.named
  have hlocks := B.notSynchronized
  have hin : meth.name = "<init>" := by rw [← hi]; exact (name_of_methodNamed B.named B.method).1
  subst hsz
  have hD := hD0.self (sz := s.heap.size)
  have hl := lv_entry (as ad) (n := nL) (hlen ad)
  rw [lg_entry_eq]
  refine body (p, l, e, s, m, (as ad).toArray, below, meth, c, _, D, ca, ad, va_A (wsOf S ca ad σ) s.heap.size) ?_ ⟨hx, hb, hr, hml, hown, fun w hw => hts w (List.mem_cons_of_mem _ hw), hlocks, hK, hN, fun q h => Or.inr h, hAO, hin⟩ (fun _ _ => rfl) s.heap [] _ hP hD va_S.rf hl
  intro ad' t H locs hag ht hP1 hD1 hS1
  exact ⟨⟨rfl, ad', hag, by rw [ht]; exact hP1, hD1⟩, hS1.F ht⟩
def scCl (n : Nat) (sc : SC) : Bool := sc.2.2.all (fun kt => kt.1 != 2 || decide (kt.2 < n))
def shCl (S : List SC) : Bool := S.all (scCl S.length)
theorem cellE_ad {ca : Nat → ClassId} {ad ad' : Nat → Nat} {σ : Mem} {o n : Nat} {sc : SC} (hc : scCl n sc = true) (h : ∀ k, k < n → ad' k = ad k) : cellE ca ad' σ o sc = cellE ca ad σ o sc := by
  have key : ∀ kt ∈ sc.2.2, kt.1 = 2 → kt.2 < n := by
    intro kt hk h2
    have := List.all_eq_true.mp hc kt hk
    rw [h2] at this
    simpa using this
  obtain ⟨t, m, sl⟩ := sc
  have hs : ∀ (j : Nat) (kt : Nat × Nat), sl[j]? = some kt → slotV ad' σ o j kt = slotV ad σ o j kt := by
    intro j kt hj
    have hm := List.mem_of_getElem? hj
    obtain ⟨a, b⟩ := kt
    match a with
    | 0 => rfl
    | 1 => rfl
    | 2 => exact congrArg Value.ref (h b (key _ hm rfl))
    | _ + 3 => rfl
  match t with
  | 0 =>
    show (Sum.inr (m, sl.mapIdx (slotV ad' σ o)) : va_E) = Sum.inr (m, sl.mapIdx (slotV ad σ o))
    have : sl.mapIdx (slotV ad' σ o) = sl.mapIdx (slotV ad σ o) := by
      apply List.ext_getElem?
      intro i
      simp only [List.getElem?_mapIdx]
      cases hi : sl[i]? with
      | none => rfl
      | some kt => simp only [Option.map_some]; rw [hs i kt hi]
    rw [this]
  | 1 => rfl
  | 2 => rfl
  | 3 => rfl
  | _ + 4 =>
    show (Sum.inl (ca 3, m, .inr (.inr (.inr (.inr (refL ad' sl))))) : va_E) = Sum.inl (ca 3, m, .inr (.inr (.inr (.inr (refL ad sl)))))
    have : refL ad' sl = refL ad sl := by
      funext j
      unfold refL
      cases hj : sl[j]? with
      | none => rfl
      | some kt =>
        simp only [Option.bind_some]
        by_cases h2 : kt.1 = 2
        · rw [if_pos h2, if_pos h2, h _ (key kt (List.mem_of_getElem? hj) h2)]
        · rw [if_neg h2, if_neg h2]
    rw [this]
theorem ws_ad {S : List SC} {ca : Nat → ClassId} {ad ad' : Nat → Nat} {σ : Mem} (hc : shCl S = true) (h : ∀ k, k < S.length → ad' k = ad k) : wsOf S ca ad' σ = wsOf S ca ad σ := by
  apply List.ext_getElem?
  intro i
  simp only [wsOf, List.getElem?_mapIdx]
  cases hi : S[i]? with
  | none => rfl
  | some sc =>
    have hl : i < S.length := (List.getElem?_eq_some_iff.mp hi).1
    simp only [Option.map_some]
    rw [h i hl, cellE_ad (List.all_eq_true.mp hc sc (List.mem_of_getElem? hi)) h]
theorem ws_push {S : List SC} {ca : Nat → ClassId} {ad : Nat → Nat} {σ : Mem} {sc : SC} {q : Nat} {e : va_E} (hc : shCl S = true) (he : ∀ ad', cellE ca ad' σ S.length sc = e) : wsOf S ca ad σ ++ [(q, e)] = wsOf (S ++ [sc]) ca (va_up ad S.length q) σ := by
  have h1 : ∀ k, k < S.length → va_up ad S.length q k = ad k := fun k hk => va_up_ne _ _ (by omega)
  rw [← ws_ad hc h1]
  apply List.ext_getElem?
  intro i
  have hlen : (wsOf S ca (va_up ad S.length q) σ).length = S.length := by simp [wsOf]
  by_cases hi : i < S.length
  · rw [List.getElem?_append_left (by rw [hlen]; exact hi)]
    simp only [wsOf, List.getElem?_mapIdx, List.getElem?_append_left hi]
  · rw [List.getElem?_append_right (by rw [hlen]; omega), hlen]
    simp only [wsOf, List.getElem?_mapIdx]
    rw [List.getElem?_append_right (by omega)]
    by_cases h0 : i = S.length
    · subst h0
      simp [he, va_up_self]
    · rw [List.getElem?_eq_none (by simp; omega), List.getElem?_eq_none (by simp; omega)]
      rfl
theorem ws_putR {S : List SC} {ca : Nat → ClassId} {ad : Nat → Nat} {σ : Mem} {o k ci t : Nat} {sl : List (Nat × Nat)} (h : S[o]? = some (0, ci, sl)) : (wsOf S ca ad σ).set o (ad o, .inr (ci, (sl.mapIdx (slotV ad σ o)).set k (.ref (ad t)))) = wsOf (S.set o (0, ci, sl.set k (2, t))) ca ad σ := by
  have hl : o < S.length := (List.getElem?_eq_some_iff.mp h).1
  apply List.ext_getElem?
  intro i
  rw [List.getElem?_set]
  simp only [wsOf, List.getElem?_mapIdx, List.length_mapIdx]
  rw [List.getElem?_set]
  by_cases hi : o = i
  · subst hi
    rw [if_pos rfl, if_pos hl, if_pos rfl, if_pos hl]
    show some (ad o, (Sum.inr (ci, (sl.mapIdx (slotV ad σ o)).set k (.ref (ad t))) : va_E)) = some (ad o, Sum.inr (ci, (sl.set k (2, t)).mapIdx (slotV ad σ o)))
    have : (sl.mapIdx (slotV ad σ o)).set k (.ref (ad t)) = (sl.set k (2, t)).mapIdx (slotV ad σ o) := by
      apply List.ext_getElem?
      intro j
      rw [List.getElem?_set]
      simp only [List.getElem?_mapIdx, List.length_mapIdx]
      rw [List.getElem?_set]
      by_cases hj : k = j
      · subst hj
        by_cases hk : k < sl.length
        · rw [if_pos rfl, if_pos hk, if_pos rfl, if_pos hk]; rfl
        · rw [if_pos rfl, if_neg hk, if_pos rfl, if_neg hk]; rfl
      · rw [if_neg hj, if_neg hj]
    rw [this]
  · rw [if_neg hi, if_neg hi]
theorem ws_putQ {S : List SC} {ca : Nat → ClassId} {ad : Nat → Nat} {σ : Mem} {o k n t : Nat} {sl : List (Nat × Nat)} (h : S[o]? = some (4, n, sl)) (hk : k < sl.length) : (wsOf S ca ad σ).set o (ad o, .inl (ca 3, n, .inr (.inr (.inr (.inr (va_up (refL ad sl) k (some (ad t)))))))) = wsOf (S.set o (4, n, sl.set k (2, t))) ca ad σ := by
  have hl : o < S.length := (List.getElem?_eq_some_iff.mp h).1
  apply List.ext_getElem?
  intro i
  rw [List.getElem?_set]
  simp only [wsOf, List.getElem?_mapIdx, List.length_mapIdx]
  rw [List.getElem?_set]
  by_cases hi : o = i
  · subst hi
    rw [if_pos rfl, if_pos hl, if_pos rfl, if_pos hl]
    show some (ad o, (Sum.inl (ca 3, n, .inr (.inr (.inr (.inr (va_up (refL ad sl) k (some (ad t))))))) : va_E)) = some (ad o, Sum.inl (ca 3, n, .inr (.inr (.inr (.inr (refL ad (sl.set k (2, t))))))))
    have : va_up (refL ad sl) k (some (ad t)) = refL ad (sl.set k (2, t)) := by
      funext j
      unfold refL
      rw [List.getElem?_set]
      by_cases hj : k = j
      · subst hj
        rw [if_pos rfl, if_pos hk, va_up_self]
        rfl
      · rw [if_neg hj, va_up_ne _ _ (fun q => hj q.symm)]
    rw [this]
  · rw [if_neg hi, if_neg hi]
def M0 : Mem := (fun _ _ => 0, fun _ _ => 0)
section CT
variable {X : CX} {S : List SC} {ad : Nat → Nat} {M : MA} {σ : Mem} {ce cs pc q : Nat} {lv lv2 : List (Nat × Value)} {st : List Value}
theorem a_iconst {n : Int} {v : Int32} (d : decode M.1 pc = .ok (.iconst n, 1)) (hq : pc + 1 = q) (hv : Int32.ofInt n = v) (k : JA X S ad M σ ce cs q lv (.int v :: st)) : JA X S ad M σ ce cs pc lv st := by
  subst hq; intro hO hG H locs ls hP hD hS hl
  exact lv_iconst hO.1 hO.2.1 d hv (k hO hG H locs ls hP hD hS hl)
theorem a_bipush {n : Int} {v : Int32} (d : decode M.1 pc = .ok (.bipush n, 2)) (hq : pc + 2 = q) (hv : (Int8.ofInt n).toInt32 = v) (k : JA X S ad M σ ce cs q lv (.int v :: st)) : JA X S ad M σ ce cs pc lv st := by
  subst hq; intro hO hG H locs ls hP hD hS hl
  exact lv_bipush hO.1 hO.2.1 d hv (k hO hG H locs ls hP hD hS hl)
theorem a_sipush {n : Int} {v : Int32} (d : decode M.1 pc = .ok (.sipush n, 3)) (hq : pc + 3 = q) (hv : (Int16.ofInt n).toInt32 = v) (k : JA X S ad M σ ce cs q lv (.int v :: st)) : JA X S ad M σ ce cs pc lv st := by
  subst hq; intro hO hG H locs ls hP hD hS hl
  exact lv_sipush hO.1 hO.2.1 d hv (k hO hG H locs ls hP hD hS hl)
theorem a_ldc2 {i : Nat} {v : Int64} (d : decode M.1 pc = .ok (.ldc2_w i, 3)) (hq : pc + 3 = q) (hw : Jvm.Cond.constantLong M.2.1 i v ∈ BW) (k : JA X S ad M σ ce cs q lv (.long v :: st)) : JA X S ad M σ ce cs pc lv st := by
  subst hq; intro hO hG H locs ls hP hD hS hl
  exact lv_ldc2 hO.1 hO.2.1 hO.2.2.2.2.1 (hO.2.2.2.2.2.1 _ hw) d (k hO hG H locs ls hP hD hS hl)
theorem a_aload_n (j : Nat) {n : Fin 4} {i : Nat} {x : Nat} (d : decode M.1 pc = .ok (.aload_n n, 1)) (hq : pc + 1 = q) (hi : (n : Nat) = i) (hj : lv[j]? = some (i, .ref x)) (k : JA X S ad M σ ce cs q lv (.ref x :: st)) : JA X S ad M σ ce cs pc lv st := by
  subst hq; intro hO hG H locs ls hP hD hS hl
  exact lv_aload_n hO.1 hO.2.1 d hi (lv_at hl j hj) (k hO hG H locs ls hP hD hS hl)
theorem a_iload_n (j : Nat) {n : Fin 4} {i : Nat} {x : Int32} (d : decode M.1 pc = .ok (.iload_n n, 1)) (hq : pc + 1 = q) (hi : (n : Nat) = i) (hj : lv[j]? = some (i, .int x)) (k : JA X S ad M σ ce cs q lv (.int x :: st)) : JA X S ad M σ ce cs pc lv st := by
  subst hq; intro hO hG H locs ls hP hD hS hl
  exact lv_iload_n hO.1 hO.2.1 d hi (lv_at hl j hj) (k hO hG H locs ls hP hD hS hl)
theorem a_istore_n (lv2 : List (Nat × Value)) {i : Nat} {n : Fin 4} {x : Int32} (d : decode M.1 pc = .ok (.istore_n n, 1)) (hq : pc + 1 = q) (hi : (n : Nat) = i) (hn : i < M.2.2.1) (hv : (i, Value.int x) :: lv.filter (fun q => !(q.1 == i) && !(q.1 + 1 == i && q.2.category == 2)) = lv2) (k : JA X S ad M σ ce cs q lv2 st) : JA X S ad M σ ce cs pc lv (.int x :: st) := by
  subst hq; intro hO hG H locs ls hP hD hS hl
  exact lv_istore_n (lv' := lv2) hO.1 hO.2.1 d hi hl hn hv (fun ls hl => k hO hG H locs ls hP hD hS hl)
theorem a_iinc (j : Nat) (lv2 : List (Nat × Value)) {i : Nat} {n : Int} {x y : Int32} (d : decode M.1 pc = .ok (.iinc i n, 3)) (hq : pc + 3 = q) (hj : lv[j]? = some (i, .int x)) (hy : x + Int32.ofInt n = y) (hn : i < M.2.2.1) (hv : (i, Value.int y) :: lv.filter (fun q => !(q.1 == i) && !(q.1 + 1 == i && q.2.category == 2)) = lv2) (k : JA X S ad M σ ce cs q lv2 st) : JA X S ad M σ ce cs pc lv st := by
  subst hq; intro hO hG H locs ls hP hD hS hl
  exact lv_iinc (v := y) (lv' := lv2) hO.1 hO.2.1 d hl hj hy hn hv (fun ls hl => k hO hG H locs ls hP hD hS hl)
theorem a_goto {off : Int} {tgt : Nat} (d : decode M.1 pc = .ok (.goto off, 3)) (ht : (pc : Int) + off = (tgt : Int)) (k : JA X S ad M σ ce cs tgt lv st) : JA X S ad M σ ce cs pc lv st := by
  intro hO hG H locs ls hP hD hS hl
  exact lv_goto hO.1 hO.2.1 d ht (k hO hG H locs ls hP hD hS hl)
theorem a_icmpgeT {x y : Int32} {off : Int} {tgt : Nat} (d : decode M.1 pc = .ok (.if_icmp .ge off, 3)) (ht : (pc : Int) + off = (tgt : Int)) (hc : y ≤ x) (k : JA X S ad M σ ce cs tgt lv st) : JA X S ad M σ ce cs pc lv (.int y :: .int x :: st) := by
  intro hO hG H locs ls hP hD hS hl
  exact lv_icmp_ge hO.1 hO.2.1 d ht (fun _ => k hO hG H locs ls hP hD hS hl) (fun c => absurd hc c)
theorem a_icmpgeF {x y : Int32} {off : Int} {tgt : Nat} (d : decode M.1 pc = .ok (.if_icmp .ge off, 3)) (ht : (pc : Int) + off = (tgt : Int)) (hq : pc + 3 = q) (hc : ¬ y ≤ x) (k : JA X S ad M σ ce cs q lv st) : JA X S ad M σ ce cs pc lv (.int y :: .int x :: st) := by
  subst hq; intro hO hG H locs ls hP hD hS hl
  exact lv_icmp_ge hO.1 hO.2.1 d ht (fun c => absurd c hc) (fun _ => k hO hG H locs ls hP hD hS hl)
theorem a_dup {v : Value} (d : decode M.1 pc = .ok (.dup, 1)) (hq : pc + 1 = q) (hc : v.category = 1) (k : JA X S ad M σ ce cs q lv (v :: v :: st)) : JA X S ad M σ ce cs pc lv (v :: st) := by
  subst hq; intro hO hG H locs ls hP hD hS hl
  exact lv_dup hO.1 hO.2.1 d hc (k hO hG H locs ls hP hD hS hl)
def OI (own : String) (i : Nat) : Prop := Cond.methodLink own i objectInit ∈ BW ∧ Cond.instanceMethod objectInit ∈ BW ∧ Cond.code objectInit ⟨#[0xb1]⟩ 1 none ∈ BW
theorem a_objInit {i a : Nat} (g : OI M.2.1 i) (hd1 : 1 ≤ M.2.2.2.1) (hr : (st.map fun v => v.category).sum ≤ 8) (d : decode M.1 pc = .ok (.invokespecial i, 3)) (hq : pc + 3 = q) (k : JA X S ad M σ ce cs q lv st) : JA X S ad M σ ce cs pc lv (.ref a :: st) := by
  subst hq; intro hO hG H locs ls hP hD hS hl
  refine W.objInit hO.1 hO.2.1 hO.2.2.2.2.1 (hO.2.2.2.2.2.1 _ g.1) (hO.2.2.2.2.2.1 _ g.2.1) (hO.2.2.2.2.2.1 _ g.2.2) rfl (hl.1.trans hO.2.2.2.1.symm) rfl d hd1 ?_ (k hO hG H locs ls hP hD hS hl)
  show 2 * 0 + (st.map fun v => v.category).sum + 12 ≤ 50 * M.2.2.2.1
  omega
def dfl (sl : List (Nat × Nat)) (j : Nat) : Value := match (sl.getD j (3, 0)).1 with
  | 0 => .int 0
  | 1 => .long 0
  | _ => .null
/-- a class that is made: its link, its fields, what they hold at first -/
def NC (own : String) (idx ci : Nat) (sl : List (Nat × Nat)) : Prop := ∃ (C : String) (T : u_T) (N : Nat) (ty : Nat → FieldType), vwCl[ci]? = some (C, T, N) ∧ (∀ w ∈ u_ws C T N, w ∈ BW) ∧ (∀ k, k < N → parseFieldDescriptor (T k).2.2.1 = some (ty k)) ∧ Cond.classLink own idx C ∈ BW ∧ Cond.instantiable C N ∈ BW ∧ Cond.initialized C ∈ BW ∧ (∀ j, j < N → defaultValue (ty j) = dfl sl j) ∧ sl.length = N ∧ sl.all (fun kt => kt.1 != 2) = true
theorem a_new {idx ci : Nat} {sl : List (Nat × Nat)} (g : NC M.2.1 idx ci sl) (hS : shCl S = true) (hn : M.2.2.2.2.2.2 ≤ S.length) (hz : ∀ j, σ.1 S.length j = 0 ∧ σ.2 S.length j = 0) (h1 : ce + 1 ≤ M.2.2.2.2.1) (h2 : cs + sl.length ≤ M.2.2.2.2.2.1) (d : decode M.1 pc = .ok (.new idx, 3)) (hq : pc + 3 = q)
    (kk : ∀ (a : Nat) (ad' : Nat → Nat), ad' S.length = a → (∀ k, k < S.length → ad' k = ad k) → JA X (S ++ [(0, ci, sl)]) ad' M σ (ce + 1) (cs + sl.length) q lv (.ref a :: st)) : JA X S ad M σ ce cs pc lv st := by
  subst hq; intro hO hG H locs ls hP hD hSS hl
  obtain ⟨C, T, N, ty, hc, hin, hty, g1, g2, g3, g4, g5, g6⟩ := g
  subst g5
  have he : ∀ ad', cellE (xk X) ad' σ S.length (0, ci, sl) = .inr (ci, sl.mapIdx (slotV ad σ S.length)) := by
    intro ad'
    rw [cellE_ad (ad := ad) (ad' := ad') (n := 0)]
    · rfl
    · refine List.all_eq_true.mpr fun kt hk => ?_
      have := List.all_eq_true.mp g6 kt hk
      simp [this]
    · intro k hk; omega
  refine va_new (fs := sl.mapIdx (slotV ad σ S.length)) hO.1 hO.2.1 hO.2.2.2.2.2.1 hin ty hty hO.2.2.2.2.1 (hO.2.2.2.2.2.1 _ g1) (hO.2.2.2.2.2.1 _ g2) (hO.2.2.2.2.2.1 _ g3) hO.2.2.2.2.2.2.2.1 hP hD hSS hO.2.2.2.2.2.2.2.2.2.1 hc (fun j hj => ?_) h1 h2 d (fun a H1 hP1 hD1 hS1 => ?_)
  · rw [g4 j hj]
    unfold vp_V
    rw [List.getD_eq_getElem?_getD, List.getElem?_mapIdx, List.getElem?_eq_getElem hj]
    show dfl sl j = slotV ad σ S.length j sl[j]
    unfold dfl
    rw [List.getD_eq_getElem?_getD, List.getElem?_eq_getElem hj]
    have hne := List.all_eq_true.mp g6 sl[j] (List.getElem_mem hj)
    generalize sl[j] = kt at hne ⊢
    obtain ⟨a, b⟩ := kt
    match a with
    | 0 => show Value.int 0 = Value.int (σ.1 S.length j); rw [(hz j).1]
    | 1 => show Value.long 0 = Value.long (σ.2 S.length j); rw [(hz j).2]
    | 2 => simp at hne
    | _ + 3 => rfl
  · rw [ws_push hS he] at hP1 hD1
    exact kk a (va_up ad S.length a) (va_up_self _ _ _) (fun k hk => va_up_ne _ _ (by omega)) hO (fun k hk => (va_up_ne _ _ (by omega)).trans (hG k hk)) H1 locs ls hP1 hD1 hS1 hl
theorem arr_same {s : State} {ca cA : ClassId} {ty : FieldType} (hp : ∀ C, ty ≠ .object C) (h1 : va_RA s ca ty) (h2 : va_RA s cA ty) : cA = ca := by
  cases ty with
  | object C => exact absurd rfl (hp C)
  | _ => exact Option.some.inj (h2.symm.trans h1)
theorem a_newarr {atype : ArrayType} {tag t0 : Nat} {ty : FieldType} {n : Int32} {N : Nat} (ht : (tag = 1 ∧ ty = .int ∧ t0 = 0) ∨ (tag = 2 ∧ False ∧ t0 = 1) ∨ (tag = 3 ∧ ty = .long ∧ t0 = 2)) (hty : newarray.typeOf atype = ty) (hw : Cond.arrayClass ty ∈ BW) (hS : shCl S = true) (hn0 : M.2.2.2.2.2.2 ≤ S.length) (hz : ∀ j, σ.1 S.length j = 0 ∧ σ.2 S.length j = 0) (hn : ¬ n < 0) (hN : n.toNatClampNeg = N) (hb : N ≤ 10000) (h1 : ce + 1 ≤ M.2.2.2.2.1) (h2 : cs + N ≤ M.2.2.2.2.2.1) (d : decode M.1 pc = .ok (.newarray atype, 2)) (hq : pc + 2 = q)
    (kk : ∀ (a : Nat) (ad' : Nat → Nat), ad' S.length = a → (∀ k, k < S.length → ad' k = ad k) → JA X (S ++ [(tag, N, [])]) ad' M σ (ce + 1) (cs + N) q lv (.ref a :: st)) : JA X S ad M σ ce cs pc lv (.int n :: st) := by
  subst hq; intro hO hG H locs ls hP hD hSS hl
  have f1 : σ.1 S.length = fun _ => 0 := funext fun j => (hz j).1
  have f2 : σ.2 S.length = fun _ => 0 := funext fun j => (hz j).2
  have harr := hO.2.2.2.2.2.1 _ hw
  subst hty
  rcases ht with ⟨rfl, e2, rfl⟩ | ⟨rfl, e2, rfl⟩ | ⟨rfl, e2, rfl⟩
  · refine va_newa (a0 := (N, .inl (fun _ => 0))) hO.1 hO.2.1 harr e2 hO.2.2.2.2.2.2.2.1 hP hD hSS hO.2.2.2.2.2.2.2.2.2.1 (fun cA => rfl) hn hN (by show N * 4 ≤ _; omega) h1 h2 d (fun a cA H1 hK1 hP1 hD1 hS1 => ?_)
    have hcA : cA = xk X 0 := arr_same (ty := .int) (fun C => by simp) (hO.2.2.2.2.2.2.2.1.2 0 _ rfl).2 (hK1.2 4 (cA, .int) rfl).2
    subst hcA
    have he : ∀ ad', cellE (xk X) ad' σ S.length (1, N, []) = .inl (xk X 0, N, .inl (fun _ => 0)) := fun ad' => by show (Sum.inl (xk X 0, N, .inl (σ.1 S.length)) : va_E) = _; rw [f1]
    rw [ws_push hS he] at hP1 hD1
    exact kk a (va_up ad S.length a) (va_up_self _ _ _) (fun k hk => va_up_ne _ _ (by omega)) hO (fun k hk => (va_up_ne _ _ (by omega)).trans (hG k hk)) H1 locs ls hP1 hD1 hS1 hl
  · exact e2.elim
  · refine va_newa (a0 := (N, .inr (.inl (fun _ => 0)))) hO.1 hO.2.1 harr e2 hO.2.2.2.2.2.2.2.1 hP hD hSS hO.2.2.2.2.2.2.2.2.2.1 (fun cA => rfl) hn hN (by show N * 8 ≤ _; omega) h1 h2 d (fun a cA H1 hK1 hP1 hD1 hS1 => ?_)
    have hcA : cA = xk X 2 := arr_same (ty := .long) (fun C => by simp) (hO.2.2.2.2.2.2.2.1.2 2 _ rfl).2 (hK1.2 4 (cA, .long) rfl).2
    subst hcA
    have he : ∀ ad', cellE (xk X) ad' σ S.length (3, N, []) = .inl (xk X 2, N, .inr (.inl (fun _ => 0))) := fun ad' => by show (Sum.inl (xk X 2, N, .inr (.inl (σ.2 S.length))) : va_E) = _; rw [f2]
    rw [ws_push hS he] at hP1 hD1
    exact kk a (va_up ad S.length a) (va_up_self _ _ _) (fun k hk => va_up_ne _ _ (by omega)) hO (fun k hk => (va_up_ne _ _ (by omega)).trans (hG k hk)) H1 locs ls hP1 hD1 hS1 hl
theorem a_newq {idx : Nat} {n : Int32} {N : Nat} (hw : Cond.classLink M.2.1 idx "IceYard$Sheet" ∈ BW) (hS : shCl S = true) (hn0 : M.2.2.2.2.2.2 ≤ S.length) (hn : ¬ n < 0) (hN : n.toNatClampNeg = N) (hb : N ≤ 10000) (h1 : ce + 1 ≤ M.2.2.2.2.1) (h2 : cs + N ≤ M.2.2.2.2.2.1) (d : decode M.1 pc = .ok (.anewarray idx, 3)) (hq : pc + 3 = q)
    (kk : ∀ (a : Nat) (ad' : Nat → Nat), ad' S.length = a → (∀ k, k < S.length → ad' k = ad k) → JA X (S ++ [(4, N, List.replicate N (3, 0))]) ad' M σ (ce + 1) (cs + N) q lv (.ref a :: st)) : JA X S ad M σ ce cs pc lv (.int n :: st) := by
  subst hq; intro hO hG H locs ls hP hD hSS hl
  refine va_newq hO.1 hO.2.1 hO.2.2.2.2.1 (hO.2.2.2.2.2.1 _ hw) hO.2.2.2.2.2.2.2.2.2.2.1 hO.2.2.2.2.2.2.2.1 hP hD hSS hO.2.2.2.2.2.2.2.2.2.1 hn hN (by omega) h1 h2 d (fun a cA H1 hK1 hP1 hD1 hS1 => ?_)
  have hcA : cA = xk X 3 := by
    obtain ⟨kA, comp, k1, k2, k3, k4⟩ := (hK1.2 4 (cA, .object "IceYard$Sheet") rfl).2
    obtain ⟨kB, comp', j1, j2, j3, j4⟩ := (hO.2.2.2.2.2.2.2.1.2 3 _ rfl).2
    exact Option.some.inj (k4.symm.trans j4)
  subst hcA
  have he : ∀ ad', cellE (xk X) ad' σ S.length (4, N, List.replicate N (3, 0)) = .inl (xk X 3, N, .inr (.inr (.inr (.inr (fun _ => none))))) := fun ad' => by
    show (Sum.inl (xk X 3, N, .inr (.inr (.inr (.inr (refL ad' (List.replicate N (3, 0))))))) : va_E) = _
    have : refL ad' (List.replicate N (3, 0)) = fun _ => none := by
      funext j
      unfold refL
      rw [List.getElem?_replicate]
      by_cases hj : j < N
      · rw [if_pos hj]; rfl
      · rw [if_neg hj]; rfl
    rw [this]
  rw [ws_push hS he] at hP1 hD1
  exact kk a (va_up ad S.length a) (va_up_self _ _ _) (fun k hk => va_up_ne _ _ (by omega)) hO (fun k hk => (va_up_ne _ _ (by omega)).trans (hG k hk)) H1 locs ls hP1 hD1 hS1 hl
/-- a field that is put in its own class's constructor, final or not -/
def FN (own : String) (idx ci k : Nat) (ty : FieldType) : Prop := ∃ (C : String) (T : u_T) (N : Nat) (t0 : Nat → FieldType), vwCl[ci]? = some (C, T, N) ∧ k < N ∧ Cond.fieldLink own idx (T k).1 (T k).2.1 (T k).2.2.1 ∈ BW ∧ (∀ w ∈ u_ws C T N, w ∈ BW) ∧ (∀ k, k < N → parseFieldDescriptor (T k).2.2.1 = some (t0 k)) ∧ (∀ a, a < N → ∀ b, b < N → a ≠ b → (T a).2.1 ≠ (T b).2.1) ∧ ((T k).2.2.2 = false ∨ (T k).1 = own) ∧ parseFieldDescriptor (T k).2.2.1 = some ty
theorem a_put {o ci k idx a : Nat} {sl : List (Nat × Nat)} {v : Value} {ty : FieldType} (g : FN M.2.1 idx ci k ty) (hs : S[o]? = some (0, ci, sl)) (hk : k < sl.length) (ha : ad o = a) (hn : narrow ty v = v) (hf : fits ty v = true) (d : decode M.1 pc = .ok (.putfield idx, 3)) (hq : pc + 3 = q) {S2 : List SC} {σ2 : Mem} (hw : ∀ ca, (wsOf S ca ad σ).set o (ad o, .inr (ci, (sl.mapIdx (slotV ad σ o)).set k v)) = wsOf S2 ca ad σ2)
    (kk : JA X S2 ad M σ2 ce cs q lv st) : JA X S ad M σ ce cs pc lv (v :: .ref a :: st) := by
  subst hq; subst ha; intro hO hG H locs ls hP hD hSS hl
  obtain ⟨C, T, N, t0, hc, hkN, hlw, hin, hty, hnm, hfin, hd⟩ := g
  have hkl : k < (sl.mapIdx (slotV ad σ o)).length := by rw [List.length_mapIdx]; exact hk
  have fin : ∀ (H1 : Heap) (locs1 : List Loc), va_P (xD X) vwCl ((wsOf S (xk X) ad σ).set o (ad o, .inr (ci, (sl.mapIdx (slotV ad σ o)).set k v))) H1 → va_D (xA X) ((wsOf S (xk X) ad σ).set o (ad o, .inr (ci, (sl.mapIdx (slotV ad σ o)).set k v))) → va_S (xA X) (xs X).heap H1 locs1 → _ := fun H1 locs1 hP1 hD1 hS1 => kk hO hG H1 locs1 ls (by rw [← hw]; exact hP1) (by rw [← hw]; exact hD1) hS1 hl
  cases hfb : (T k).2.2.2 with
  | false => exact va_put (fs := sl.mapIdx (slotV ad σ o)) hO.1 hO.2.1 hO.2.2.2.2.2.1 hin t0 hty hnm hO.2.2.2.2.1 hO.2.2.2.2.2.2.2.1 hP hD hSS o (ws_at hs) hc k hkN (hO.2.2.2.2.2.1 _ hlw) (fun _ h9 => h9) hfb hd hn hf hkl d fin
  | true =>
    have hdecl : (T k).1 = M.2.1 := by
      rcases hfin with h | h
      · rw [hfb] at h; cases h
      · exact h
    exact va_putF (fs := sl.mapIdx (slotV ad σ o)) hO.1 hO.2.1 hO.2.2.2.2.2.1 hin t0 hty hnm hO.2.2.2.2.1 hO.2.2.2.2.2.2.2.1 hP hD hSS o (ws_at hs) hc k hkN (hO.2.2.2.2.2.1 _ hlw) (fun _ h9 => h9) hfb hO.2.2.2.2.2.2.2.2.2.2.2 hdecl hd hn hf hkl d fin
theorem a_getR {o ci k t idx a : Nat} {sl : List (Nat × Nat)} (g : FG M.2.1 idx ci k) (hs : S[o]? = some (0, ci, sl)) (hk : sl[k]? = some (2, t)) (ha : ad o = a) (d : decode M.1 pc = .ok (.getfield idx, 3)) (hq : pc + 3 = q) (kk : JA X S ad M σ ce cs q lv (.ref (ad t) :: st)) : JA X S ad M σ ce cs pc lv (.ref a :: st) := by
  subst hq; subst ha; intro hO hG H locs ls hP hD hSS hl
  obtain ⟨C, T, N, hc, hkN, hw, hin⟩ := g
  exact va_get (fs := sl.mapIdx (slotV ad σ o)) hO.1 hO.2.1 hO.2.2.2.2.2.1 hin hO.2.2.2.2.1 hO.2.2.2.2.2.2.2.1 hP o (ws_at hs) hc k hkN (hO.2.2.2.2.2.1 _ hw) (fun _ h9 => h9) (by rw [List.getElem?_mapIdx, hk]; rfl) d (kk hO hG H locs ls hP hD hSS hl)
theorem a_iast {o n a : Nat} {sl : List (Nat × Nat)} {i v : Int32} (j : Nat) (hj : i.toNatClampNeg = j) (hs : S[o]? = some (1, n, sl)) (ha : ad o = a) (hi : vp_in i n) (d : decode M.1 pc = .ok (.iastore, 1)) (hq : pc + 1 = q) (kk : JA X S ad M (setI σ o j v) ce cs q lv st) : JA X S ad M σ ce cs pc lv (.int v :: .int i :: .ref a :: st) := by
  subst hj; subst hq; subst ha; intro hO hG H locs ls hP hD hSS hl
  refine va_iast hO.1 hO.2.1 hO.2.2.2.2.2.2.2.1 hP hD hSS o 0 (ws_at hs) rfl hi d (fun H1 locs1 hP1 hD1 hS1 => ?_)
  rw [ws_putAI _ _ hs] at hP1 hD1
  exact kk hO hG H1 locs1 ls hP1 hD1 hS1 hl
theorem a_last {o n a : Nat} {sl : List (Nat × Nat)} {i : Int32} {v : Int64} (j : Nat) (hj : i.toNatClampNeg = j) (hs : S[o]? = some (3, n, sl)) (ha : ad o = a) (hi : vp_in i n) (d : decode M.1 pc = .ok (.lastore, 1)) (hq : pc + 1 = q) (kk : JA X S ad M (setL σ o j v) ce cs q lv st) : JA X S ad M σ ce cs pc lv (.long v :: .int i :: .ref a :: st) := by
  subst hj; subst hq; subst ha; intro hO hG H locs ls hP hD hSS hl
  refine va_last hO.1 hO.2.1 hO.2.2.2.2.2.2.2.1 hP hD hSS o 2 (ws_at hs) rfl hi d (fun H1 locs1 hP1 hD1 hS1 => ?_)
  rw [ws_putAL _ _ hs] at hP1 hD1
  exact kk hO hG H1 locs1 ls hP1 hD1 hS1 hl
theorem a_aast {o n a b t : Nat} {sl sl2 : List (Nat × Nat)} {i : Int32} {T : u_T} (j : Nat) (hj : i.toNatClampNeg = j) (hs : S[o]? = some (4, n, sl)) (hlen : sl.length = n) (ha : ad o = a) (ht : S[t]? = some (0, 5, sl2)) (hb : ad t = b) (hc : vwCl[5]? = some ("IceYard$Sheet", T, 3)) (hi : vp_in i n) (d : decode M.1 pc = .ok (.aastore, 1)) (hq : pc + 1 = q) (kk : JA X (S.set o (4, n, sl.set j (2, t))) ad M σ ce cs q lv st) : JA X S ad M σ ce cs pc lv (.ref b :: .int i :: .ref a :: st) := by
  subst hj; subst hq; subst ha; subst hb; subst hlen; intro hO hG H locs ls hP hD hSS hl
  have hlt : i.toNatClampNeg < sl.length := Nat.not_le.mp fun q => hi (Or.inr q)
  refine va_astq (r := ("IceYard$Sheet", T, 3)) hO.1 hO.2.1 hO.2.2.2.2.2.2.2.1 hP hD hSS o 3 t 5 (ws_at hs) rfl (ws_at ht) hc hi d (fun H1 locs1 hP1 hD1 hS1 => ?_)
  rw [ws_putQ hs hlt] at hP1 hD1
  exact kk hO hG H1 locs1 ls hP1 hD1 hS1 hl
theorem a_ret (hc : ce ≤ M.2.2.2.2.1) (hs : cs ≤ M.2.2.2.2.2.1) (d : decode M.1 pc = .ok (.return_, 1)) (hE : EndA X M.2.2.2.2.2.2 S σ) : JA X S ad M σ ce cs pc lv [] := by
  intro hO hG H locs ls hP hD hSS hl
  refine W.widen hc hs ?_
  exact W.vret hO.1 hO.2.1 hO.2.2.1 (fun t ht hW => hE ad t H locs hG ht hP hD hSS) hSS.2.2 d hO.2.2.2.2.2.2.1
theorem blindA {S : List SC} {D : va_G} {ca : Nat → ClassId} {ad : Nat → Nat} {σ : Mem} {sz : Nat} {as : List Value} : FrameBlind (va_Pc as (fun U => U.heap.size = sz ∧ va_P D vwCl (wsOf S ca ad σ) U.heap ∧ va_K D vwCl (tyL ca) U ∧ va_D (fun _ => True) (wsOf S ca ad σ) ∧ NK U ∧ va_AO "IceYard$Sheet" U)) := by
  intro a U g mk q
  obtain ⟨q0, q1, qP, qK, qD, qN, qA⟩ := q
  exact ⟨q0, q1, qP, va_K.moved (u := U) (U := U.calling g mk a) (Vm.Alike.refl U.vm) qK, qD, qN.same rfl, va_AO.moved (u := U) (U := U.calling g mk a) (Vm.Alike.refl U.vm) qA⟩
theorem any_callA {p : Program} {l : Launch} {e : Env} {R : Room} {s : State} {m : MethodId} {args : Array Value} {below : List Frame} {meth : Method} {c : Code} {H : Heap} {locs : List Loc} {Q : State → Prop} {cells slots mc ms pc : Nat} {ls : Array Slot} {rest st0 : List Value} {A0 A1 : Nat → Prop} {H0 : Heap} {free : Addr → Prop} {r : Option Value} {P : State → Prop}
    (hr : va_Run p l e R s m args below meth c H locs cells slots mc ms (F0 m pc ls st0) rest (fun st oc t => (oc = .returned r ∧ P t) ∧ va_F A1 st t) free) (hS : va_S A0 H0 H locs) (hA : ∀ q, A1 q → A0 q) (hf : ∀ q, free q → A0 q)
    (kk : ∀ (t : State) (H1 : Heap) (locs1 : List Loc), t.heap = H1 → P t → (∀ q : Nat, q < H.size → ¬ A1 q → H1[q]? = H[q]?) → va_S A0 H0 H1 locs1 → W p l e R s m args below meth c H1 locs1 (cells + mc) (slots + ms) Q (F0 m (pc + 3) ls (r.toList ++ rest))) : W p l e R s m args below meth c H locs cells slots Q (F0 m pc ls st0) := by
  intro T hT X
  obtain ⟨v, st₀, t, T', L, h0, X', hL, e1, e2, ⟨⟨hv, hb⟩, hz, hk⟩, st⟩ := hr T hT X
  cases hv
  rw [h0] at hz hk
  obtain ⟨t2, a1, b1⟩ := kk t T'.heap (locs ++ L) e1.symm hb (fun q h1 h2 => by rw [e1]; exact hk q h1 h2)
    ⟨Nat.le_trans hS.1 (by rw [e1]; exact hz), fun q h1 h2 => by rw [e1, hk q (Nat.lt_of_lt_of_le h1 hS.1) (fun z => h2 (hA q z))]; exact hS.2.1 q h1 h2, fun q hq => by
      rcases List.mem_append.mp hq with h | h
      · exact hS.2.2 q h
      · exact hf _ (hL q h)⟩ T' rfl X'
  exact ⟨t2, st t2 a1, b1⟩
/-- what a constructor's call stands on: plain, or of a nest mate's private one -/
def MI (own : String) (idx : Nat) (y : MethodName) (cb : ByteArray) (nl n : Nat) : Prop := (Cond.methodLink own idx y ∈ BW ∨ (own, idx, y, "IceYard") ∈ nestL) ∧ Cond.instanceMethod y ∈ BW ∧ Cond.initialized y.cls ∈ BW ∧ Cond.code y cb nl none ∈ BW ∧ (y.cls ≠ "java/lang/invoke/MethodHandle" ∧ y.cls ≠ "java/lang/invoke/VarHandle" ∧ (parseMethodDescriptor y.desc).map (fun d => d.parameters.length) = some n) ∧ y.name = "<init>" ∧ nl ≤ 21
theorem a_call {y : MethodName} {cb : ByteArray} {nl n d' mc ms a idx : Nat} {S' : List SC} {as : (Nat → Nat) → List Value} {σ' : Mem} (As rest : List Value) (hc : ConA d' mc ms y cb nl S S' as σ σ') (mi : MI M.2.1 idx y cb nl n) (hd : d' < M.2.2.2.1) (has : as ad = .ref a :: As) (hn : As.length = n) {st0 : List Value} (hst : st0 = As.reverse ++ .ref a :: rest) (hr : (rest.map fun v => v.category).sum ≤ 8) (h1 : ce + mc ≤ M.2.2.2.2.1) (h2 : cs + ms ≤ M.2.2.2.2.2.1) (hn0 : M.2.2.2.2.2.2 ≤ S.length) (d : decode M.1 pc = .ok (.invokespecial idx, 3)) (hq : pc + 3 = q)
    (kk : ∀ ad', (∀ k, k < S.length → ad' k = ad k) → JA X S' ad' M σ' (ce + mc) (cs + ms) q lv rest) : JA X S ad M σ ce cs pc lv st0 := by
  subst hq; intro hO hG H locs ls hP hD hSS hl
  obtain ⟨m1, m2, m3, m4, m5, m6, m7⟩ := mi
  have hF := freeA hD hSS hO.2.2.2.2.2.2.2.2.2.1
  have hroom : (rmA d' mc ms).frames + 1 ≤ (rmA M.2.2.2.1 M.2.2.2.2.1 M.2.2.2.2.2.1).frames ∧ 8 + (nl + 11) + (rmA d' mc ms).locals ≤ (rmA M.2.2.2.1 M.2.2.2.2.1 M.2.2.2.2.2.1).locals := by
    show d' + 1 ≤ M.2.2.2.1 ∧ 8 + (nl + 11) + 50 * d' ≤ 50 * M.2.2.2.1
    omega
  have hgood : GoodIn BW (.code y cb nl none :: BW) := gBW (fun w hw => by
    rcases List.mem_cons.mp hw with rfl | h
    · exact m4
    · exact h)
  have hpre : PreS (xs X) H (va_Pc (as ad) (fun U => U.heap.size = H.size ∧ va_P (xD X) vwCl (wsOf S (xk X) ad σ) U.heap ∧ va_K (xD X) vwCl (tyL (xk X)) U ∧ va_D (fun _ => True) (wsOf S (xk X) ad σ) ∧ NK U ∧ va_AO "IceYard$Sheet" U)) (.ref a :: As) :=
    ⟨blindA, fun U hU hW => ⟨by rw [has], by rw [hU], by rw [hU]; exact hP, va_K.moved hW.alike hO.2.2.2.2.2.2.2.1, hD.weaken (fun _ _ _ _ => trivial), hO.2.2.2.2.2.2.2.2.1.warm hW, va_AO.moved hW.alike hO.2.2.2.2.2.2.2.2.2.2.1⟩⟩
  refine any_callA (r := none) (P := fun t => ∃ ad', (∀ k, k < S.length → ad' k = ad k) ∧ va_P (xD X) vwCl (wsOf S' (xk X) ad' σ') t.heap ∧ va_D (va_A (wsOf S (xk X) ad σ) H.size) (wsOf S' (xk X) ad' σ')) (rest := rest) (mc := mc) (ms := ms) (free := va_A (wsOf S (xk X) ad σ) H.size) ?_ hSS hF hF (fun t H1 locs1 ht hPt _ hS1 => ?_)
  · rcases m1 with m1 | m1
    · exact va_runI (As := As) (rest := rest) ⟨hO.1, hO.2.1, hO.2.2.2.1, hO.2.2.2.2.1, hO.2.2.2.2.2.1⟩ (hc (xl X) (xD X) (xk X) ad H.size) (cwI n hO.2.2.2.2.2.1 hgood rfl rfl rfl (hO.2.2.2.2.2.1 _ m3) (hO.2.2.2.2.2.1 _ m1) (hO.2.2.2.2.2.1 _ m2) m6 m5 hroom) hpre rfl hn hl.1 hst (lv_room hr) d ⟨h1, h2⟩
    · exact va_runIN (As := As) (rest := rest) ⟨hO.1, hO.2.1, hO.2.2.2.1, hO.2.2.2.2.1, hO.2.2.2.2.2.1⟩ (hc (xl X) (xD X) (xk X) ad H.size) ⟨va_cnB (host := "IceYard") n hO.2.2.2.2.2.1 hgood rfl rfl rfl (hO.2.2.2.2.2.2.2.2.1 _ m1) (hO.2.2.2.2.2.1 _ m3) m5 hroom, m6, hO.2.2.2.2.2.1 _ m2⟩ hpre rfl hn hl.1 hst (lv_room hr) d ⟨h1, h2⟩
  · obtain ⟨ad', hag, hP1, hD1⟩ := hPt
    rw [ht] at hP1
    exact kk ad' hag hO (fun k hk => (hag k (Nat.lt_of_lt_of_le hk hn0)).trans (hG k hk)) H1 locs1 ls hP1 (hD1.weaken (fun _ _ _ h => hF _ h)) hS1 hl
end CT

/-! ===== THE MEMORY OF ONE SIDE, ITS SHAPE, AND THE JUDGEMENT J: a walk said in words of that memory alone ===== -/
abbrev Mem : Type := (Nat → Nat → Int32) × (Nat → Nat → Int64)
def setI (σ : Mem) (o k : Nat) (v : Int32) : Mem := (va_up σ.1 o (upd (σ.1 o) k v), σ.2)
def setL (σ : Mem) (o k : Nat) (v : Int64) : Mem := (σ.1, va_up σ.2 o (vp_updL (σ.2 o) k v))
def setA (σ : Mem) (o : Nat) (f : Nat → Int32) : Mem := (va_up σ.1 o f, σ.2)
/-- a cell's shape: (0, its kind, its slots), (1 ints, 2 booleans, 3 longs, its length), (4 references, how many, which) -/
abbrev SC : Type := Nat × Nat × List (Nat × Nat)
def slotV (ad : Nat → Nat) (σ : Mem) (o j : Nat) (kt : Nat × Nat) : Value := match kt.1 with
  | 0 => .int (σ.1 o j)
  | 1 => .long (σ.2 o j)
  | 2 => .ref (ad kt.2)
  | _ => .null
def refL (ad : Nat → Nat) (sl : List (Nat × Nat)) (j : Nat) : Option Nat := (sl[j]?).bind fun kt => if kt.1 = 2 then some (ad kt.2) else none
def cellE (ca : Nat → ClassId) (ad : Nat → Nat) (σ : Mem) (o : Nat) (sc : SC) : va_E := match sc.1 with
  | 0 => .inr (sc.2.1, sc.2.2.mapIdx (slotV ad σ o))
  | 1 => .inl (ca 0, sc.2.1, .inl (σ.1 o))
  | 2 => .inl (ca 1, sc.2.1, .inl (σ.1 o))
  | 3 => .inl (ca 2, sc.2.1, .inr (.inl (σ.2 o)))
  | _ => .inl (ca 3, sc.2.1, .inr (.inr (.inr (.inr (refL ad sc.2.2)))))
def wsOf (S : List SC) (ca : Nat → ClassId) (ad : Nat → Nat) (σ : Mem) : va_W := S.mapIdx (fun o sc => (ad o, cellE ca ad σ o sc))
theorem ws_at {S : List SC} {ca : Nat → ClassId} {ad : Nat → Nat} {σ : Mem} {o : Nat} {sc : SC} (h : S[o]? = some sc) : (wsOf S ca ad σ)[o]? = some (ad o, cellE ca ad σ o sc) := by
  simp [wsOf, List.getElem?_mapIdx, h]
theorem ws_set {S : List SC} {ca : Nat → ClassId} {ad : Nat → Nat} {σ σ' : Mem} {o : Nat} {sc : SC} {e : va_E} (h : S[o]? = some sc) (he : e = cellE ca ad σ' o sc) (hne : ∀ o', o' ≠ o → ∀ sc', cellE ca ad σ o' sc' = cellE ca ad σ' o' sc') : (wsOf S ca ad σ).set o (ad o, e) = wsOf S ca ad σ' := by
  apply List.ext_getElem?
  intro i
  rw [List.getElem?_set]
  by_cases hi : o = i
  · subst hi
    have hl : o < (wsOf S ca ad σ).length := by
      have := (List.getElem?_eq_some_iff.mp (ws_at (ca := ca) (ad := ad) (σ := σ) h)).1
      exact this
    rw [if_pos rfl, if_pos hl, he, ws_at h]
  · rw [if_neg hi]
    simp only [wsOf, List.getElem?_mapIdx]
    cases S[i]? with
    | none => rfl
    | some sc' => simp only [Option.map_some]; rw [hne i (fun q => hi q.symm) sc']
theorem slotV_ne {ad : Nat → Nat} {σ σ' : Mem} {o j : Nat} (h1 : σ.1 o j = σ'.1 o j) (h2 : σ.2 o j = σ'.2 o j) (kt : Nat × Nat) : slotV ad σ o j kt = slotV ad σ' o j kt := by
  obtain ⟨a, b⟩ := kt
  match a with
  | 0 => exact congrArg Value.int h1
  | 1 => exact congrArg Value.long h2
  | 2 => rfl
  | _ + 3 => rfl
theorem cellE_ne {ca : Nat → ClassId} {ad : Nat → Nat} {σ σ' : Mem} {o : Nat} (h1 : σ.1 o = σ'.1 o) (h2 : σ.2 o = σ'.2 o) (sc : SC) : cellE ca ad σ o sc = cellE ca ad σ' o sc := by
  obtain ⟨t, n, sl⟩ := sc
  match t with
  | 0 =>
    show (Sum.inr (n, sl.mapIdx (slotV ad σ o)) : va_E) = Sum.inr (n, sl.mapIdx (slotV ad σ' o))
    have : slotV ad σ o = slotV ad σ' o := by
      funext j kt
      exact slotV_ne (by rw [h1]) (by rw [h2]) kt
    rw [this]
  | 1 => simp only [cellE, h1]
  | 2 => simp only [cellE, h1]
  | 3 => simp only [cellE, h2]
  | _ + 4 => rfl
theorem setI_ne1 {σ : Mem} {o k : Nat} {v : Int32} {o' : Nat} (h : o' ≠ o) : (setI σ o k v).1 o' = σ.1 o' := va_up_ne _ _ h
theorem setL_ne2 {σ : Mem} {o k : Nat} {v : Int64} {o' : Nat} (h : o' ≠ o) : (setL σ o k v).2 o' = σ.2 o' := va_up_ne _ _ h
theorem setA_ne1 {σ : Mem} {o : Nat} {f : Nat → Int32} {o' : Nat} (h : o' ≠ o) : (setA σ o f).1 o' = σ.1 o' := va_up_ne _ _ h
theorem setI_s1 {σ : Mem} {o k : Nat} {v : Int32} : (setI σ o k v).1 o = upd (σ.1 o) k v := va_up_self _ _ _
theorem setL_s2 {σ : Mem} {o k : Nat} {v : Int64} : (setL σ o k v).2 o = vp_updL (σ.2 o) k v := va_up_self _ _ _
theorem setA_s1 {σ : Mem} {o : Nat} {f : Nat → Int32} : (setA σ o f).1 o = f := va_up_self _ _ _
theorem mapIdx_set {ad : Nat → Nat} {σ σ' : Mem} {o k : Nat} {sl : List (Nat × Nat)} {kt : Nat × Nat} {v : Value} (hk : sl[k]? = some kt) (hv : slotV ad σ' o k kt = v) (hne : ∀ j, j ≠ k → ∀ q, slotV ad σ o j q = slotV ad σ' o j q) : (sl.mapIdx (slotV ad σ o)).set k v = sl.mapIdx (slotV ad σ' o) := by
  apply List.ext_getElem?
  intro i
  rw [List.getElem?_set]
  by_cases hi : k = i
  · subst hi
    have hl : k < sl.length := (List.getElem?_eq_some_iff.mp hk).1
    have he : sl[k] = kt := (List.getElem?_eq_some_iff.mp hk).2
    simp [List.getElem?_mapIdx, hl, he, ← hv]
  · rw [if_neg hi]
    simp only [List.getElem?_mapIdx]
    cases sl[i]? with
    | none => rfl
    | some q => simp only [Option.map_some]; rw [hne i (fun q => hi q.symm) q]
theorem ws_putI {S : List SC} {ca : Nat → ClassId} {ad : Nat → Nat} {σ : Mem} {o k ci t : Nat} {sl : List (Nat × Nat)} (v : Int32) (h : S[o]? = some (0, ci, sl)) (hk : sl[k]? = some (0, t)) : (wsOf S ca ad σ).set o (ad o, .inr (ci, (sl.mapIdx (slotV ad σ o)).set k (.int v))) = wsOf S ca ad (setI σ o k v) := by
  refine ws_set h ?_ (fun o' ho sc' => cellE_ne (σ := σ) (σ' := setI σ o k v) (setI_ne1 ho).symm rfl sc')
  show _ = (Sum.inr (ci, sl.mapIdx (slotV ad (setI σ o k v) o)) : va_E)
  rw [mapIdx_set hk]
  · show Value.int ((setI σ o k v).1 o k) = _
    rw [setI_s1]
    simp [upd]
  · intro j hj q
    refine slotV_ne (σ := σ) (σ' := setI σ o k v) ?_ rfl q
    rw [setI_s1]
    simp [upd, hj]
theorem ws_putL {S : List SC} {ca : Nat → ClassId} {ad : Nat → Nat} {σ : Mem} {o k ci t : Nat} {sl : List (Nat × Nat)} (v : Int64) (h : S[o]? = some (0, ci, sl)) (hk : sl[k]? = some (1, t)) : (wsOf S ca ad σ).set o (ad o, .inr (ci, (sl.mapIdx (slotV ad σ o)).set k (.long v))) = wsOf S ca ad (setL σ o k v) := by
  refine ws_set h ?_ (fun o' ho sc' => cellE_ne (σ := σ) (σ' := setL σ o k v) rfl (setL_ne2 ho).symm sc')
  show _ = (Sum.inr (ci, sl.mapIdx (slotV ad (setL σ o k v) o)) : va_E)
  rw [mapIdx_set hk]
  · show Value.long ((setL σ o k v).2 o k) = _
    rw [setL_s2]
    simp [vp_updL]
  · intro j hj q
    refine slotV_ne (σ := σ) (σ' := setL σ o k v) rfl ?_ q
    rw [setL_s2]
    simp [vp_updL, hj]
theorem ws_putAI {S : List SC} {ca : Nat → ClassId} {ad : Nat → Nat} {σ : Mem} {o n : Nat} {sl : List (Nat × Nat)} (k : Nat) (v : Int32) (h : S[o]? = some (1, n, sl)) : (wsOf S ca ad σ).set o (ad o, .inl (ca 0, n, .inl (upd (σ.1 o) k v))) = wsOf S ca ad (setI σ o k v) :=
  ws_set h (by show _ = (Sum.inl (ca 0, n, .inl ((setI σ o k v).1 o)) : va_E); rw [setI_s1]) (fun o' ho sc' => cellE_ne (σ := σ) (σ' := setI σ o k v) (setI_ne1 ho).symm rfl sc')
theorem ws_putAZ {S : List SC} {ca : Nat → ClassId} {ad : Nat → Nat} {σ : Mem} {o n : Nat} {sl : List (Nat × Nat)} (k : Nat) (v : Int32) (h : S[o]? = some (2, n, sl)) : (wsOf S ca ad σ).set o (ad o, .inl (ca 1, n, .inl (upd (σ.1 o) k v))) = wsOf S ca ad (setI σ o k v) :=
  ws_set h (by show _ = (Sum.inl (ca 1, n, .inl ((setI σ o k v).1 o)) : va_E); rw [setI_s1]) (fun o' ho sc' => cellE_ne (σ := σ) (σ' := setI σ o k v) (setI_ne1 ho).symm rfl sc')
theorem ws_putAL {S : List SC} {ca : Nat → ClassId} {ad : Nat → Nat} {σ : Mem} {o n : Nat} {sl : List (Nat × Nat)} (k : Nat) (v : Int64) (h : S[o]? = some (3, n, sl)) : (wsOf S ca ad σ).set o (ad o, .inl (ca 2, n, .inr (.inl (vp_updL (σ.2 o) k v)))) = wsOf S ca ad (setL σ o k v) :=
  ws_set h (by show _ = (Sum.inl (ca 2, n, .inr (.inl ((setL σ o k v).2 o))) : va_E); rw [setL_s2]) (fun o' ho sc' => cellE_ne (σ := σ) (σ' := setL σ o k v) rfl (setL_ne2 ho).symm sc')
theorem ws_putA {S : List SC} {ca : Nat → ClassId} {ad : Nat → Nat} {σ : Mem} {o n : Nat} {sl : List (Nat × Nat)} (f : Nat → Int32) (h : S[o]? = some (1, n, sl)) : (wsOf S ca ad σ).set o (ad o, .inl (ca 0, n, .inl f)) = wsOf S ca ad (setA σ o f) :=
  ws_set h (by show _ = (Sum.inl (ca 0, n, .inl ((setA σ o f).1 o)) : va_E); rw [setA_s1]) (fun o' ho sc' => cellE_ne (σ := σ) (σ' := setA σ o f) (setA_ne1 ho).symm rfl sc')
/-! the pure words of a method's meaning -/
def nm {α β : Type} (e : α) (f : α → β) : β := f e
def rd {R : Type} (i : Int32) (n : Nat) (f : Nat → Option R) : Option R := if i < 0 ∨ n ≤ i.toNatClampNeg then none else f i.toNatClampNeg
def stI {R : Type} (σ : Mem) (o n : Nat) (i v : Int32) (f : Mem → Option R) : Option R := rd i n fun j => f (setI σ o j v)
def stZ {R : Type} (σ : Mem) (o n : Nat) (i v : Int32) (f : Mem → Option R) : Option R := rd i n fun j => f (setI σ o j (vp_nar .boolean v))
def stL {R : Type} (σ : Mem) (o n : Nat) (i : Int32) (v : Int64) (f : Mem → Option R) : Option R := rd i n fun j => f (setL σ o j v)
def dzI {R : Type} (y : Int32) (f : Option R) : Option R := if y = 0 then none else f
def dzL {R : Type} (y : Int64) (f : Option R) : Option R := if y = 0 then none else f
def bi {α R : Type} (x : Option (α × Mem)) (f : α → Mem → Option R) : Option R := match x with
  | none => none
  | some p => f p.1 p.2
def bv {R : Type} (x : Option Mem) (f : Mem → Option R) : Option R := match x with
  | none => none
  | some p => f p
def rz (v : Int32) (σ : Mem) : Option (Int32 × Mem) := if v = 0 ∨ v = 1 then some (v, σ) else none
def cpA {R : Type} (σ : Mem) (o1 o2 n1 n2 : Nat) (sp dp n : Int32) (f : Mem → Option R) : Option R := if sp < 0 ∨ dp < 0 ∨ n < 0 ∨ n1 < sp.toNatClampNeg + n.toNatClampNeg ∨ n2 < dp.toNatClampNeg + n.toNatClampNeg then none else f (setA σ o2 (va_cpy (σ.1 o1) (σ.1 o2) sp.toNatClampNeg dp.toNatClampNeg n.toNatClampNeg))
def shOk (o : Nat) : Prop := 7 ≤ o ∧ o ≤ 10
/-- a reference to a sheet, or null -/
def sh {R : Type} (v : Option Nat) (a : Option R) (f : Nat → Option R) : Option R := match v with
  | none => a
  | some o => if 7 ≤ o ∧ o ≤ 10 then f o else none
def ov (ad : Nat → Nat) (v : Option Nat) : Value := match v with
  | none => .null
  | some o => .ref (ad o)
/-- how often a loop is gone through at most, far more than any -/
def FU : Nat := 10000000
theorem nn {R : Type} {out : R} {P : Prop} (h : (none : Option R) = some out) : P := by cases h
theorem cpI {R : Type} {out : R} {P : Prop} {c : Prop} {dc : Decidable c} {f g : Option R} (h : (if c then f else g) = some out) (k1 : c → f = some out → P) (k2 : ¬ c → g = some out → P) : P := by
  by_cases hc : c
  · rw [if_pos hc] at h; exact k1 hc h
  · rw [if_neg hc] at h; exact k2 hc h
theorem rd_of {R : Type} {out : R} {i : Int32} {n : Nat} {f : Nat → Option R} (h : rd i n f = some out) : vp_in i n ∧ f i.toNatClampNeg = some out := by
  unfold rd at h
  by_cases hc : i < 0 ∨ n ≤ i.toNatClampNeg
  · rw [if_pos hc] at h; cases h
  · rw [if_neg hc] at h; exact ⟨hc, h⟩
/-! the context of a walk -/
abbrev CX : Type := Program × Launch × Env × State × MethodId × Array Value × List Frame × Method × Code × (Array Value → State → Outcome → State → Prop) × va_G × (Nat → ClassId) × (Nat → Nat) × (Nat → Prop)
abbrev xp (X : CX) : Program := X.1
abbrev xl (X : CX) : Launch := X.2.1
abbrev xe (X : CX) : Env := X.2.2.1
abbrev xs (X : CX) : State := X.2.2.2.1
abbrev xm (X : CX) : MethodId := X.2.2.2.2.1
abbrev xa (X : CX) : Array Value := X.2.2.2.2.2.1
abbrev xb (X : CX) : List Frame := X.2.2.2.2.2.2.1
abbrev xh (X : CX) : Method := X.2.2.2.2.2.2.2.1
abbrev xc (X : CX) : Code := X.2.2.2.2.2.2.2.2.1
abbrev xQ (X : CX) : Array Value → State → Outcome → State → Prop := X.2.2.2.2.2.2.2.2.2.1
abbrev xD (X : CX) : va_G := X.2.2.2.2.2.2.2.2.2.2.1
abbrev xk (X : CX) : Nat → ClassId := X.2.2.2.2.2.2.2.2.2.2.2.1
def xad (X : CX) : Nat → Nat := X.2.2.2.2.2.2.2.2.2.2.2.2.1
abbrev xA (X : CX) : Nat → Prop := X.2.2.2.2.2.2.2.2.2.2.2.2.2
/-- a method: its code, its class, its locals, its answer's type, how deep it calls -/
abbrev MD : Type := ByteArray × String × Nat × Option FieldType × Nat
def rmL (d : Nat) : Room := { frames := d, cells := 0, slots := 0, locals := 50 * d }
def tyL (ca : Nat → ClassId) : List (ClassId × FieldType) := [(ca 0, .int), (ca 1, .int), (ca 2, .long), (ca 3, .object "IceYard$Sheet")]
def nestL : List (String × Nat × MethodName × String) := [(RX8, 13, yX1_init, "IceYard"), (RX8, 59, yX5_init, "IceYard"), (RX6, 58, yX8_placeOf, "IceYard"), (RX1, 90, yX8_has, "IceYard"), (RX6, 87, yX8_has, "IceYard"), (RX6, 91, yX8_withPlace, "IceYard"), (RX4, 70, yX8_pushNumber, "IceYard"), (RX0, 48, yX8_pushNumber, "IceYard"), (RX2, 60, yX8_pushNumber, "IceYard"), (RX3, 19, yX8_placeOf, "IceYard"), (RX3, 43, yX8_has, "IceYard"), (RX1, 97, yX8_withPlace, "IceYard")]
def NK (U : State) : Prop := ∀ q ∈ nestL, va_Nw (.methodLinkNest q.1 q.2.1 q.2.2.1 q.2.2.2) U
theorem NK.warm {s U : State} (h : NK s) (hW : s.WarmedH U.vm) : NK U := fun q hq => va_Nw.warmM hW (h q hq)
theorem NK.same {s U : State} (h : NK s) (hv : s.vm = U.vm) : NK U := fun q hq => va_Nw.same rfl hv (h q hq)
def OK (X : CX) (M : MD) : Prop := (xp X).tables.exec = Jvm.exec ∧ (xc X).code = M.1 ∧ (xh X).sig.returnType = M.2.2.2.1 ∧ (xc X).maxLocals = M.2.2.1 ∧ (xs X).vm.findClass M.2.1 = some (xm X).cls ∧ (∀ w ∈ BW, w.before (xa X) (xs X) = true) ∧ (xh X).locks = false ∧ va_K (xD X) vwCl (tyL (xk X)) (xs X) ∧ NK (xs X) ∧ ∀ q, (xs X).heap.size ≤ q → xA X q
def J (X : CX) (S : List SC) (M : MD) (σ : Mem) (pc : Nat) (lv : List (Nat × Value)) (st : List Value) : Prop :=
  OK X M → ∀ (H : Heap) (locs : List Loc) (ls : Array Slot), va_P (xD X) vwCl (wsOf S (xk X) (xad X) σ) H → va_D (xA X) (wsOf S (xk X) (xad X) σ) → va_S (xA X) (xs X).heap H locs → lv_has ls M.2.2.1 lv →
    W (xp X) (xl X) (xe X) (rmL M.2.2.2.2) (xs X) (xm X) (xa X) (xb X) (xh X) (xc X) H locs 0 0 (MQ (xb X) (xQ X) (xa X) (xs X) 0 0 (xA X)) (F0 (xm X) pc ls st)
def Ends (X : CX) (S : List SC) (r : Option Value) (σ : Mem) : Prop := ∀ (t : State) (H : Heap) (locs : List Loc), t.heap = H → va_P (xD X) vwCl (wsOf S (xk X) (xad X) σ) H → va_D (xA X) (wsOf S (xk X) (xad X) σ) → va_S (xA X) (xs X).heap H locs → xQ X (xa X) (xs X) (.returned r) t
def Con (S : List SC) (d : Nat) (y : MethodName) (cc : ByteArray) (nL : Nat) (ret : Option FieldType) (as : (Nat → Nat) → List Value) (σ : Mem) (r : (Nat → Nat) → Option Value) (σ' : Mem) : Prop :=
  ∀ (l : Launch) (D : va_G) (ca : Nat → ClassId) (ad : Nat → Nat) (sz : Nat), Met l y (.code y cc nL ret :: BW) (rmL d) (va_Pc (as ad) (fun U => U.heap.size = sz ∧ va_P D vwCl (wsOf S ca ad σ) U.heap ∧ va_K D vwCl (tyL ca) U ∧ va_D (fun _ => True) (wsOf S ca ad σ) ∧ NK U))
    (fun _ st oc t => (oc = .returned (r ad) ∧ va_P D vwCl (wsOf S ca ad σ') t.heap ∧ va_D (va_A (wsOf S ca ad σ) sz) (wsOf S ca ad σ')) ∧ va_F (va_A (wsOf S ca ad σ) sz) st t) 0 0 (va_A (wsOf S ca ad σ) sz)
theorem con_of {S : List SC} {d : Nat} {y : MethodName} {cc : ByteArray} {nL : Nat} {ret : Option FieldType} {as : (Nat → Nat) → List Value} {σ σ' : Mem} {r : (Nat → Nat) → Option Value} (hy : plainName y.cls = true) (hlen : ∀ ad, (lg_sl (as ad)).length ≤ nL)
    (body : ∀ X : CX, Ends X S (r (xad X)) σ' → J X S (cc, y.cls, nL, ret, d) σ 0 (lv_args 0 (as (xad X))) []) : Con S d y cc nL ret as σ r σ' := by
  intro l D ca ad sz
  refine Met.ofW (cc := cc) (maxL := nL) (ret := ret) hy rfl ?_
  intro p e s m args below meth c s₁ B hml hv
  obtain ⟨rfl, hsz, hP, hK, hD0, hN⟩ := hv
  have hx := B.exec
  have hb := B.bytes
  have hr := B.returns
  have hts := atoms_spec (ws := .code y cc nL ret :: BW) B.pre
  have hown : s.vm.findClass y.cls = some m.cls := findClass_of_methodNamed B.named
  have hlocks := B.notSynchronized
  subst hsz
  have hD := hD0.self (sz := s.heap.size)
  have hl := lv_entry (as ad) (n := nL) (hlen ad)
  rw [lg_entry_eq]
  refine body (p, l, e, s, m, (as ad).toArray, below, meth, c, _, D, ca, ad, va_A (wsOf S ca ad σ) s.heap.size) ?_ ⟨hx, hb, hr, hml, hown, fun w hw => hts w (List.mem_cons_of_mem _ hw), hlocks, hK, hN, fun q h => Or.inr h⟩ s.heap [] _ hP hD va_S.rf hl
  intro t H locs ht hP1 hD1 hS1
  exact ⟨⟨rfl, by rw [ht]; exact hP1, hD1⟩, hS1.F ht⟩

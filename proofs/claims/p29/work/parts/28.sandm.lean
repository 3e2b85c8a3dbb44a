/-! ===== sand: the reference; the call ===== -/
theorem lie_h {p g : Nat} (hp : p < 39) (hg : g < 2) : lieI p = (-20 : Int32) - nI g ↔ p = 37 + g :=
  (by decide +kernel : ∀ p, p < 39 → ∀ g, g < 2 → (lieI p = (-20 : Int32) - nI g ↔ p = 37 + g)) p hp g hg
theorem n4 (b : Nat) : (4 : Int32) * nI b = nI (4 * b) := pk_mul 4 b
theorem d4 {p : Nat} (hp : p < 2 ^ 31) : nI p / (4 : Int32) = nI (p / 4) := pk_div (d := 4) hp (by decide) (by decide)
theorem m4 {p : Nat} (hp : p < 2 ^ 31) : nI p - nI p / (4 : Int32) * (4 : Int32) = nI (p % 4) := pk_md (d := 4) hp (by decide) (by decide)
/-- what every try of the reference keeps -/
def InM (Y : Yd) (T : Nat → Bool) (τ0 τ : Mem) : Prop := MS' Y τ ∧ (∀ i, bit64 (τ.2 0 17) i = T i) ∧ FrM τ0 τ
theorem inm_sl {Y : Yd} {T : Nat → Bool} {τ0 τ τ' : Mem} {r : PR} (h : InM Y T τ0 τ) (hS : SlM Y r τ τ') : InM Y T τ0 τ' :=
  ⟨slm_ms hS h.1, fun i => by rw [hS.2.2.2.1 17 (by decide) (by decide)]; exact h.2.1 i, frm_trans h.2.2 (frm_sl hS)⟩
theorem inm_held {Y : Yd} {T : Nat → Bool} {τ0 τ : Mem} (h : InM Y T τ0 τ) (l : Nat) : InM Y T τ0 (heldM τ l) := ⟨frm_ms (held_fr τ l) h.1, h.2.1, frm_trans h.2.2 (held_fr τ l)⟩
theorem inm_given {Y : Yd} {T : Nat → Bool} {τ0 τ : Mem} (h : InM Y T τ0 τ) (l : Nat) : InM Y T τ0 (givenM τ l) := ⟨frm_ms (given_fr τ l) h.1, h.2.1, frm_trans h.2.2 (given_fr τ l)⟩
def cmG (Y : Yd) (T : Nat → Bool) (k g : Nat) (D : Dy) (p : Nat) : Bool := anyT Y (pp Y T D p).2.1 && decide ((pp Y T D p).1.1 k = 37 + g)
def cmH (Y : Yd) (T : Nat → Bool) (k g n : Nat) (D : Dy) (p : Nat) : Bool := anyT Y (pp Y T D p).2.1 && (decide ((pp Y T D p).1.1 k = 37 + g) || (decide (n = 2) && anyF (cmG Y T k g (pp Y T D p).1) 0 (4 * db Y)))
theorem cmH_bh {Y : Yd} (hY : WFY Y) {T : Nat → Bool} {D : Dy} (hD : WFD Y D) {k g n : Nat} (hn : n = 1 ∨ n = 2) (hk : D.1 k < 36) : anyF (cmH Y T k g n D) 0 (4 * db Y) = bh Y T k g n D := by
  obtain ⟨n', rfl⟩ : ∃ n', n = n' + 1 := ⟨n - 1, by omega⟩
  rw [bh_s]
  refine anyF_cong fun p _ hp => ?_
  unfold cmH bhF
  congr 1
  have h1 := pu_home hY hD (T := T) (b := p / 4) (d := p % 4) (k := k) (g := g) (by omega) (by omega)
  have hD1 := (pu_ok hY hD (T := T) (k := p / 4) (d := p % 4) (by omega)).1
  rw [show decide ((pp Y T D p).1.1 k = 37 + g) = decide ((pp Y T D p).2.2 = some (k, g)) from decide_eq_decide.mpr h1]
  by_cases q : (pp Y T D p).2.2 = some (k, g)
  · rw [decide_eq_true q, Bool.true_or, Bool.true_or]
  · rw [decide_eq_false q, Bool.false_or, Bool.false_or]
    rcases hn with e | e
    · have : n' = 0 := by omega
      subst this
      rfl
    · have : n' = 1 := by omega
      subst this
      rw [show decide (1 + 1 = 2) = true from rfl, Bool.true_and, bh_s]
      refine anyF_cong fun r _ hr => ?_
      unfold cmG bhF
      congr 1
      have h2 := pu_home hY hD1 (T := T) (b := r / 4) (d := r % 4) (k := k) (g := g) (by omega) (fun z => q (h1.mp z))
      rw [show decide ((pp Y T (pp Y T D p).1 r).1.1 k = 37 + g) = decide ((pp Y T (pp Y T D p).1 r).2.2 = some (k, g)) from decide_eq_decide.mpr h2]
      show _ = (decide _ || false)
      rw [Bool.or_false]
theorem setL2 {σ : Mem} {o k : Nat} {v : Int64} : (setL σ o k v).2 o k = v := by rw [setL_s2]; simp [vp_updL]
/-- the reference's memory between two tries -/
def SaM (Y : Yd) (D : Dy) (τ0 τ : Mem) : Prop := InM Y T0 τ0 τ ∧ Held Y D 0 τ ∧ EncM Y D (τ.1 4) (τ.2 0 8) ∧ τ.2 0 17 = 0
def oneI (o : Option Nat) : Int32 := match o with
  | none => -9
  | some c => nI c
theorem finF_none {f : Nat → Bool} : ∀ {m p : Nat}, finF f p m = none → ∀ q, p ≤ q → q < p + m → f q = false := by
  intro m
  induction m with
  | zero => intro p _ q h1 h2; omega
  | succ m ih =>
    intro p h q h1 h2
    unfold finF at h
    cases hf : f p
    · rw [hf, if_neg (by decide)] at h
      by_cases e : q = p
      · rw [e]; exact hf
      · exact ih h q (by omega) (by omega)
    · rw [hf, if_pos rfl] at h; cases h

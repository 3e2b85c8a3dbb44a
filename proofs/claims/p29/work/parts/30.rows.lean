/-! ===== rows: the abstract; the class ===== -/
def orT (a b : Nat → Bool) : Nat → Bool := fun i => a i || b i
def eqT (a b : Nat → Bool) : Bool := (List.range 64).all (fun i => a i == b i)
theorem eqT_iff {a b : Nat → Bool} : eqT a b = true ↔ ∀ i, i < 64 → a i = b i := by
  unfold eqT
  rw [List.all_eq_true]
  constructor
  · intro h i hi
    have := h i (List.mem_range.mpr hi)
    exact eq_of_beq this
  · intro h i hi
    rw [h i (List.mem_range.mp hi)]
    exact beq_self_eq_true _
def wkp (f : Nat → List Nat) : Nat → Nat → List Nat
  | _, 0 => []
  | p, m + 1 => f p ++ wkp f (p + 1) m
/-- the rows of r pushes more, as numbers to the base of all pushes -/
def wkc (Y : Yd) (t : Nat → Bool) : Nat → Dy → (Nat → Bool) → Nat → List Nat
  | 0, _, l, x => if eqT l t then [x] else []
  | r + 1, D, l, x => wkp (fun p => if anyT Y (pp Y T0 D p).2.1 then wkc Y t r (pp Y T0 D p).1 (orT l (pp Y T0 D p).2.1) (x * (4 * db Y) + p) else []) 0 (4 * db Y)
def wkF (Y : Yd) (t : Nat → Bool) (r : Nat) (D : Dy) (l : Nat → Bool) (x p : Nat) : List Nat := if anyT Y (pp Y T0 D p).2.1 then wkc Y t r (pp Y T0 D p).1 (orT l (pp Y T0 D p).2.1) (x * (4 * db Y) + p) else []
theorem wkc_s (Y : Yd) (t : Nat → Bool) (r : Nat) (D : Dy) (l : Nat → Bool) (x : Nat) : wkc Y t (r + 1) D l x = wkp (wkF Y t r D l x) 0 (4 * db Y) := rfl
theorem wkp_nil {f : Nat → List Nat} : ∀ {m p : Nat}, (∀ q, f q = []) → wkp f p m = [] := by
  intro m
  induction m with
  | zero => intro p _; rfl
  | succ m ih => intro p h; unfold wkp; rw [h p, ih h]; rfl
theorem wkp_len {f : Nat → List Nat} {c : Nat} : ∀ {m p : Nat}, (∀ q, (f q).length ≤ c) → (wkp f p m).length ≤ m * c := by
  intro m
  induction m with
  | zero => intro p _; exact Nat.zero_le _
  | succ m ih =>
    intro p h
    unfold wkp
    rw [List.length_append, Nat.succ_mul]
    have := h p
    have := ih (p := p + 1) h
    omega
theorem wkc_len (Y : Yd) (t : Nat → Bool) : ∀ (r : Nat) (D : Dy) (l : Nat → Bool) (x : Nat), (wkc Y t r D l x).length ≤ (4 * db Y) ^ r := by
  intro r
  induction r with
  | zero =>
    intro D l x
    unfold wkc
    cases eqT l t <;> simp
  | succ r ih =>
    intro D l x
    rw [wkc_s, Nat.pow_succ, Nat.mul_comm ((4 * db Y) ^ r) (4 * db Y)]
    refine wkp_len fun q => ?_
    unfold wkF
    cases anyT Y (pp Y T0 D q).2.1
    · exact Nat.zero_le _
    · exact ih _ _ _
/-- what is too many already stays so -/
theorem wkc_cut {Y : Yd} {t : Nat → Bool} : ∀ (r : Nat) (D : Dy) (l : Nat → Bool) (x i : Nat), i < 64 → l i = true → t i = false → wkc Y t r D l x = [] := by
  intro r
  induction r with
  | zero =>
    intro D l x i hi h1 h2
    unfold wkc
    cases q : eqT l t
    · rfl
    · have := eqT_iff.mp q i hi
      rw [h1, h2] at this; cases this
  | succ r ih =>
    intro D l x i hi h1 h2
    rw [wkc_s]
    refine wkp_nil fun q => ?_
    unfold wkF
    cases anyT Y (pp Y T0 D q).2.1
    · rfl
    · exact ih _ _ _ i hi (by unfold orT; rw [h1]; rfl) h2
/-- a push's number as it is told -/
def num (p : Nat) : Nat := 10 * (p / 4) + p % 4
/-- the q-th push of a row of d -/
def dgt (B d x q : Nat) : Nat := x / B ^ (d - 1 - q) % B
def RcX (B n : Nat) (L : List Nat) (σ : Mem) : Prop := σ.1 5 5 = nI L.length ∧ ∀ z, L.head? = some z → ∀ q, q < n → σ.1 29 q = nI (num (dgt B n z q))
def PfX (B d x : Nat) (σ : Mem) : Prop := ∀ q, q < d → σ.1 28 q = nI (num (dgt B d x q))
def KpW (σ σ' : Mem) : Prop := (∀ o, o ≠ 2 → o ≠ 22 → o ≠ 5 → o ≠ 28 → o ≠ 29 → σ'.1 o = σ.1 o) ∧ ∀ o, o ≠ 2 → σ'.2 o = σ.2 o
theorem kpw_rfl (σ : Mem) : KpW σ σ := ⟨fun _ _ _ _ _ _ => rfl, fun _ _ => rfl⟩
theorem kpw_trans {a b c : Mem} (h : KpW a b) (h' : KpW b c) : KpW a c := ⟨fun o h1 h2 h3 h4 h5 => (h'.1 o h1 h2 h3 h4 h5).trans (h.1 o h1 h2 h3 h4 h5), fun o h1 => (h'.2 o h1).trans (h.2 o h1)⟩
theorem kpw_x {a b : Mem} (h : KpX a b) : KpW a b := ⟨fun o h1 h2 _ _ _ => h.1 o h1 h2, h.2⟩
theorem in_set {Y : Yd} {T : Nat → Bool} {σ : Mem} {o k : Nat} {v : Int32} (h : InX Y T σ) (ho : o ≠ 1 ∧ ¬ (18 ≤ o ∧ o ≤ 22)) : InX Y T (setI σ o k v) := by
  refine ⟨xs_cong (setI_ne1 (by omega)) (setI_ne1 (by omega)) (setI_ne1 (by omega)) (setI_ne1 (by omega)) (setI_ne1 (by omega)) rfl h.1, ?_, h.2.2⟩
  have := h.2.1
  unfold XLd at this ⊢
  rw [setI_ne1 (by omega)]
  exact this
theorem cr_loop {B n : Nat} (hn : n ≤ 3) {x : Nat} : ∀ (m i fuel : Nat) (σ : Mem), i + m = n → m < fuel → PfX B n x σ → ∃ σ', FX2_countRow_9 fuel σ (nI n) (nI i) = some σ' ∧ σ'.1 5 5 = σ.1 5 5 + 1 ∧ (∀ q, i ≤ q → q < n → σ'.1 29 q = nI (num (dgt B n x q))) ∧ (∀ q, q < i → σ'.1 29 q = σ.1 29 q) ∧ (∀ o, o ≠ 5 → o ≠ 29 → σ'.1 o = σ.1 o) ∧ σ'.2 = σ.2 := by
  intro m
  induction m with
  | zero =>
    intro i fuel σ hi hf hP
    obtain ⟨f, rfl⟩ : ∃ f, fuel = f + 1 := ⟨fuel - 1, by omega⟩
    refine ⟨setI σ 5 5 (σ.1 5 5 + 1), ?_, by rw [setI_s1]; simp [upd], fun q h1 h2 => by omega, fun q _ => by rw [setI_ne1 (by decide)], fun o h5 _ => setI_ne1 h5, rfl⟩
    show BX2_countRow_9 (FX2_countRow_9 f) σ _ (nI i) = _
    unfold BX2_countRow_9
    rw [if_pos (nI_le (by omega) (by omega))]
    rfl
  | succ m ih =>
    intro i fuel σ hi hf hP
    obtain ⟨f, rfl⟩ : ∃ f, fuel = f + 1 := ⟨fuel - 1, by omega⟩
    obtain ⟨σ', r1, r2, r3, r4, r5, r6⟩ := ih (i + 1) f (setI σ 29 i (σ.1 28 i)) (by omega) (by omega) (fun q hq => by rw [setI_ne1 (by decide)]; exact hP q hq)
    refine ⟨σ', ?_, ?_, fun q h1 h2 => ?_, fun q hq => ?_, fun o h5 h29 => ?_, r6⟩
    · rw [← r1]
      show BX2_countRow_9 (FX2_countRow_9 f) σ _ (nI i) = _
      unfold BX2_countRow_9
      rw [if_neg (nI_ge (by omega) (by omega)), if_neg (show ¬ (3 : Int32) ≤ nI i from nI_ge (b := 3) (by omega) (by decide)), rd_in (by omega) (by decide), stI_in (by omega) (by decide), nm_eq, nI_1]
    · rw [r2, setI_ne1 (by decide)]
    · by_cases e : q = i
      · subst e
        rw [r4 q (by omega), setI_s1]
        simp only [upd, if_true]
        exact hP q h2
      · exact r3 q (by omega) h2
    · rw [r4 q (by omega), setI_s1]
      simp only [upd]
      rw [if_neg (by omega)]
    · rw [r5 o h5 h29, setI_ne1 h29]
theorem cr_eq {Y : Yd} {n : Nat} (hn : n ≤ 3) {x : Nat} {L : List Nat} {σ : Mem} (hL : L.length < 20000) (hR : RcX (4 * db Y) n L σ) (hP : PfX (4 * db Y) n x σ) (hI : InX Y T0 σ) : ∃ σ', FX2_countRow σ (nI n) = some σ' ∧ RcX (4 * db Y) n (L ++ [x]) σ' ∧ PfX (4 * db Y) n x σ' ∧ InX Y T0 σ' ∧ KpW σ σ' := by
  have fr : ∀ σ' : Mem, (∀ o, o ≠ 5 → o ≠ 29 → σ'.1 o = σ.1 o) → σ'.2 = σ.2 → PfX (4 * db Y) n x σ' ∧ InX Y T0 σ' ∧ KpW σ σ' := by
    intro σ' h1 h2
    refine ⟨fun q hq => by rw [h1 28 (by decide) (by decide)]; exact hP q hq, ⟨xs_cong (h1 1 (by decide) (by decide)) (h1 18 (by decide) (by decide)) (h1 19 (by decide) (by decide)) (h1 20 (by decide) (by decide)) (h1 21 (by decide) (by decide)) (by rw [h2]) hI.1, ?_, by rw [h2]; exact hI.2.2⟩, fun o _ _ h5 _ h29 => h1 o h5 h29, fun o _ => by rw [h2]⟩
    have := hI.2.1
    unfold XLd at this ⊢
    rw [h1 22 (by decide) (by decide), h2]
    exact this
  unfold FX2_countRow
  rw [hR.1]
  by_cases h0 : L.length = 0
  · have hnil : L = [] := List.length_eq_zero_iff.mp h0
    subst hnil
    rw [if_pos (show nI ([] : List Nat).length = 0 from rfl)]
    obtain ⟨σ', r1, r2, r3, r4, r5, r6⟩ := cr_loop hn n 0 FU σ (Nat.zero_add _) (by show n < 10000000; omega) hP
    refine ⟨σ', r1, ⟨?_, fun z hz q hq => ?_⟩, fr σ' r5 r6⟩
    · rw [r2, hR.1]; rfl
    · have hz' : some x = some z := hz
      cases hz'
      exact r3 q (Nat.zero_le _) hq
  · rw [if_neg (nI_ne0 (by omega) (by omega))]
    refine ⟨setI σ 5 5 (σ.1 5 5 + 1), rfl, ⟨?_, fun z hz q hq => ?_⟩, fr _ (fun o h5 _ => setI_ne1 h5) rfl⟩
    · rw [setI_s1]
      simp only [upd, if_true]
      rw [hR.1, nI_1, List.length_append]; rfl
    · rw [setI_ne1 (by decide)]
      refine hR.2 z ?_ q hq
      cases L with
      | nil => exact absurd rfl h0
      | cons a L' => exact hz
theorem dgt_up {B d x p q : Nat} (hp : p < B) (hq : q < d) : dgt B (d + 1) (x * B + p) q = dgt B d x q := by
  unfold dgt
  have e : d + 1 - 1 - q = (d - 1 - q) + 1 := by omega
  have hB : 0 < B := by omega
  rw [e, Nat.pow_succ, Nat.mul_comm (B ^ (d - 1 - q)) B, ← Nat.div_div_eq_div_mul, Nat.mul_comm x B, Nat.mul_add_div hB, Nat.div_eq_of_lt hp, Nat.add_zero]
theorem dgt_at {B d x p : Nat} (hp : p < B) : dgt B (d + 1) (x * B + p) d = p := by
  unfold dgt
  rw [show d + 1 - 1 - d = 0 by omega, Nat.pow_zero, Nat.div_one, Nat.mul_comm, Nat.mul_add_mod, Nat.mod_eq_of_lt hp]
theorem num_eq {b d : Nat} (hd : d < 4) : num (4 * b + d) = 10 * b + d := by unfold num; rw [show (4 * b + d) / 4 = b by omega, show (4 * b + d) % 4 = d by omega]
theorem wkx_loop {Y : Yd} (hY : WFY Y) {t : Nat → Bool} {n r d : Nat} (hn : n ≤ 3) (hr : r + 1 + d = n) {D : Dy} (hD : WFD Y D) {y : Int64} (hy : EncX Y D y) {left : Int64} {l : Nat → Bool} (hl : ∀ i, bit64 left i = l i) {x : Nat} (rc : Mem → Int64 → Int32 → Int32 → Int64 → Option Mem)
    (hrc : 0 < r → ∀ (D' : Dy) (y' left' : Int64) (l' : Nat → Bool) (x' : Nat) (L : List Nat) (σ : Mem), WFD Y D' → EncX Y D' y' → (∀ i, bit64 left' i = l' i) → InX Y T0 σ → (∀ i, i < 64 → bit64 (σ.2 5 4) i = t i) → PfX (4 * db Y) (d + 1) x' σ → RcX (4 * db Y) n L σ → L.length + (4 * db Y) ^ r < 20000 → ∃ σ', rc σ y' (nI (d + 1)) (nI n) left' = some σ' ∧ InX Y T0 σ' ∧ PfX (4 * db Y) (d + 1) x' σ' ∧ RcX (4 * db Y) n (L ++ wkc Y t r D' l' x') σ' ∧ KpW σ σ') :
    ∀ (m b dd f1 f2 : Nat) (L : List Nat) (σ : Mem), 4 * b + dd + m = 4 * db Y → b < db Y → dd < 4 → db Y ≤ b + f1 → 4 < dd + f2 → InX Y T0 σ → (∀ i, i < 64 → bit64 (σ.2 5 4) i = t i) → PfX (4 * db Y) d x σ → RcX (4 * db Y) n L σ → L.length + m * (4 * db Y) ^ r < 20000 → ∃ σ', FX2_walk_34 rc (FX2_walk_19 rc f1) f2 σ y (nI d) (nI n) left (nI b) (nI dd) = some σ' ∧ InX Y T0 σ' ∧ PfX (4 * db Y) d x σ' ∧ RcX (4 * db Y) n (L ++ wkp (wkF Y t r D l x) (4 * b + dd) m) σ' ∧ KpW σ σ' := by
  have h6 := hY.2.1
  intro m
  induction m with
  | zero => intro b dd f1 f2 L σ h1 h2; omega
  | succ m ih =>
    intro b dd f1 f2 L σ hm hb hd hf1 hf2 hI hT hP hR hLn
    obtain ⟨f, rfl⟩ : ∃ f, f2 = f + 1 := ⟨f2 - 1, by omega⟩
    have hsm : (m + 1) * (4 * db Y) ^ r = m * (4 * db Y) ^ r + (4 * db Y) ^ r := Nat.succ_mul _ _
    obtain ⟨σ1, g1, g2, g3, g4, g5, g6, g7, g8, g9⟩ := gox hY (t0_ok Y) hD hI hy hb hd
    have hpp : pp Y T0 D (4 * b + dd) = pushD Y T0 D b dd := by show pushD Y T0 D ((4 * b + dd) / 4) ((4 * b + dd) % 4) = _; rw [show (4 * b + dd) / 4 = b by omega, show (4 * b + dd) % 4 = dd by omega]
    have nxt_ : ∀ (L2 : List Nat) (σ2 : Mem), InX Y T0 σ2 → KpW σ σ2 → PfX (4 * db Y) d x σ2 → RcX (4 * db Y) n L2 σ2 → L2.length + m * (4 * db Y) ^ r < 20000 → ∃ σ', FX2_walk_34 rc (FX2_walk_19 rc f1) f σ2 y (nI d) (nI n) left (nI b) (nI (dd + 1)) = some σ' ∧ InX Y T0 σ' ∧ PfX (4 * db Y) d x σ' ∧ RcX (4 * db Y) n (L2 ++ wkp (wkF Y t r D l x) (4 * b + dd + 1) m) σ' ∧ KpW σ σ' := by
      intro L2 σ2 hI2 hK2 hP2 hR2 hLn2
      have hT2 : ∀ i, i < 64 → bit64 (σ2.2 5 4) i = t i := by rw [hK2.2 5 (by decide)]; exact hT
      by_cases hd3 : dd + 1 < 4
      · obtain ⟨σ', r1, r2, r3, r4, r5⟩ := ih b (dd + 1) f1 f L2 σ2 (by omega) hb hd3 hf1 (by omega) hI2 hT2 hP2 hR2 hLn2
        exact ⟨σ', r1, r2, r3, r4, kpw_trans hK2 r5⟩
      · obtain ⟨f', rfl⟩ : ∃ f', f = f' + 1 := ⟨f - 1, by omega⟩
        obtain ⟨f0, rfl⟩ : ∃ f0, f1 = f0 + 1 := ⟨f1 - 1, by omega⟩
        have hde : dd + 1 = 4 := by omega
        have e1 : FX2_walk_34 rc (FX2_walk_19 rc (f0 + 1)) (f' + 1) σ2 y (nI d) (nI n) left (nI b) (nI (dd + 1)) = FX2_walk_19 rc (f0 + 1) σ2 y (nI d) (nI n) left (nI (b + 1)) := by
          show BX2_walk_34 rc _ _ σ2 y _ _ _ _ (nI (dd + 1)) = _
          unfold BX2_walk_34
          rw [hde, if_pos (show (4 : Int32) ≤ nI 4 by decide), nm_eq, nI_1]
        rw [e1]
        by_cases hb1 : b + 1 < db Y
        · have e2 : FX2_walk_19 rc (f0 + 1) σ2 y (nI d) (nI n) left (nI (b + 1)) = FX2_walk_34 rc (FX2_walk_19 rc f0) FU σ2 y (nI d) (nI n) left (nI (b + 1)) (nI 0) := by
            show BX2_walk_19 rc (FX2_walk_19 rc f0) σ2 y _ _ _ _ = _
            unfold BX2_walk_19
            rw [hI2.1.2.2.1, if_neg (nI_ge hb1 (by omega))]
            rfl
          rw [e2]
          obtain ⟨σ', r1, r2, r3, r4, r5⟩ := ih (b + 1) 0 f0 FU L2 σ2 (by omega) hb1 (by omega) (by omega) (by show 4 < 0 + 10000000; omega) hI2 hT2 hP2 hR2 hLn2
          rw [show 4 * (b + 1) + 0 = 4 * b + dd + 1 by omega] at r4
          exact ⟨σ', r1, r2, r3, r4, kpw_trans hK2 r5⟩
        · have hm0 : m = 0 := by omega
          subst hm0
          refine ⟨σ2, ?_, hI2, hP2, ?_, hK2⟩
          · show BX2_walk_19 rc (FX2_walk_19 rc f0) σ2 y _ _ _ _ = _
            unfold BX2_walk_19
            rw [hI2.1.2.2.1, if_pos (nI_le (by omega) (by omega))]
          · show RcX (4 * db Y) n (L2 ++ []) σ2
            rw [List.append_nil]; exact hR2
    have un : FX2_walk_34 rc (FX2_walk_19 rc f1) (f + 1) σ y (nI d) (nI n) left (nI b) (nI dd) = BX2_walk_34 rc (FX2_walk_19 rc f1) (FX2_walk_34 rc (FX2_walk_19 rc f1) f) σ y (nI d) (nI n) left (nI b) (nI dd) := rfl
    rw [un]
    unfold BX2_walk_34
    rw [if_neg (show ¬ (4 : Int32) ≤ nI dd from nI_ge (b := 4) hd (by decide)), g1, bi_some]
    have hst : L ++ wkp (wkF Y t r D l x) (4 * b + dd) (m + 1) = (L ++ wkF Y t r D l x (4 * b + dd)) ++ wkp (wkF Y t r D l x) (4 * b + dd + 1) m := by
      show L ++ (wkF Y t r D l x (4 * b + dd) ++ _) = _
      rw [List.append_assoc]
    rw [hst]
    have hF : wkF Y t r D l x (4 * b + dd) = if anyT Y (pushD Y T0 D b dd).2.1 then wkc Y t r (pushD Y T0 D b dd).1 (orT l (pushD Y T0 D b dd).2.1) (x * (4 * db Y) + (4 * b + dd)) else [] := by
      unfold wkF
      rw [hpp]
    have hP1 : PfX (4 * db Y) d x σ1 := fun q hq => by rw [g3.1 28 (by decide) (by decide)]; exact hP q hq
    have hR1 : RcX (4 * db Y) n L σ1 := by
      refine ⟨by rw [g3.1 5 (by decide) (by decide)]; exact hR.1, fun z hz q hq => by rw [g3.1 29 (by decide) (by decide)]; exact hR.2 z hz q hq⟩
    rw [hF]
    cases ha : anyT Y (pushD Y T0 D b dd).2.1
    · rw [if_neg (show ¬ false = true by decide), if_pos rfl, nm_eq, nI_1, if_neg (show ¬ false = true by decide), List.append_nil]
      exact nxt_ L σ1 g2 (kpw_x g3) hP1 hR1 (by omega)
    · rw [if_pos rfl, if_neg (show ¬ (1 : Int32) = 0 by decide), nm_eq, if_pos rfl]
      have h54 : ∀ i, i < 64 → bit64 (σ1.2 5 4) i = t i := by rw [g3.2 5 (by decide)]; exact hT
      have hl' : ∀ i, bit64 (left ||| σ1.2 2 7) i = orT l (pushD Y T0 D b dd).2.1 i := fun i => by rw [w_or, hl, g5]; rfl
      have hcut : lg_cmp ((left ||| σ1.2 2 7) &&& ((σ1.2 5 4) ^^^ (-1 : Int64))) 0 = 0 ↔ ∀ i, i < 64 → orT l (pushD Y T0 D b dd).2.1 i = true → t i = true := by
        rw [lg_eq, w_eq0]
        constructor
        · intro h i hi hi2
          have := h i hi
          rw [w_and, w_xor, w_m1, hl', h54 i hi, hi2, decide_eq_true hi] at this
          revert this
          cases t i <;> simp
        · intro h i hi
          rw [w_and, w_xor, w_m1, hl', h54 i hi, decide_eq_true hi]
          cases q : orT l (pushD Y T0 D b dd).2.1 i
          · rfl
          · rw [h i hi q]; rfl
      by_cases hc : ∀ i, i < 64 → orT l (pushD Y T0 D b dd).2.1 i = true → t i = true
      · have hdn : 10 * b + dd < 2 ^ 31 := by omega
        rw [if_pos (hcut.mpr hc)]
        unfold FX8_pushNumber
        rw [bi_some, show (10 : Int32) * nI b + nI dd = nI (num (4 * b + dd)) by rw [show (10 : Int32) = nI 10 from rfl, pk_mul, nI_add, num_eq hd], stI_in (show d < 3 by omega) (by decide)]
        have hI3 : InX Y T0 (setI σ1 28 d (nI (num (4 * b + dd)))) := in_set g2 (by omega)
        have hK3 : KpW σ (setI σ1 28 d (nI (num (4 * b + dd)))) := kpw_trans (kpw_x g3) ⟨fun o _ _ _ h28 _ => setI_ne1 h28, fun _ _ => rfl⟩
        have hP3 : PfX (4 * db Y) (d + 1) (x * (4 * db Y) + (4 * b + dd)) (setI σ1 28 d (nI (num (4 * b + dd)))) := fun q hq => by
          rw [setI_s1]
          by_cases e : q = d
          · subst e
            simp only [upd, if_true]
            rw [dgt_at (by omega)]
          · simp only [upd, if_neg e]
            rw [dgt_up (by omega) (by omega)]
            exact hP1 q (by omega)
        have hR3 : RcX (4 * db Y) n L (setI σ1 28 d (nI (num (4 * b + dd)))) := by
          refine ⟨by rw [setI_ne1 (by decide)]; exact hR1.1, fun z hz q hq => by rw [setI_ne1 (by decide)]; exact hR1.2 z hz q hq⟩
        have pf : ∀ σ2 : Mem, PfX (4 * db Y) (d + 1) (x * (4 * db Y) + (4 * b + dd)) σ2 → PfX (4 * db Y) d x σ2 := fun σ2 h q hq => by
          rw [h q (by omega), dgt_up (by omega) hq]
        have hlen := wkc_len Y t r (pushD Y T0 D b dd).1 (orT l (pushD Y T0 D b dd).2.1) (x * (4 * db Y) + (4 * b + dd))
        by_cases hr0 : r = 0
        · subst hr0
          have hdn2 : d + 1 = n := by omega
          rw [nI_1, if_pos (nI_le (by omega) (by omega))]
          have he : lg_cmp (left ||| σ1.2 2 7) ((setI σ1 28 d (nI (num (4 * b + dd)))).2 5 4) = 0 ↔ eqT (orT l (pushD Y T0 D b dd).2.1) t = true := by
            rw [lg_eq, eqT_iff]
            constructor
            · intro h i hi
              rw [← hl' i, h]
              exact h54 i hi
            · intro h
              refine w_ext fun i hi => ?_
              rw [hl' i, h i hi]
              exact (h54 i hi).symm
          show ∃ σ', _ ∧ InX Y T0 σ' ∧ PfX (4 * db Y) d x σ' ∧ RcX (4 * db Y) n ((L ++ if eqT (orT l (pushD Y T0 D b dd).2.1) t = true then [x * (4 * db Y) + (4 * b + dd)] else []) ++ _) σ' ∧ _
          by_cases hq : eqT (orT l (pushD Y T0 D b dd).2.1) t = true
          · rw [if_pos (he.mpr hq), if_pos hq]
            rw [hdn2] at hP3
            obtain ⟨σ4, c1, c2, c3, c4, c5⟩ := cr_eq hn (by rw [Nat.pow_zero] at hLn; omega) hR3 hP3 hI3
            rw [c1, bv_some, nm_eq, nI_1]
            rw [← hdn2] at c3
            exact nxt_ _ σ4 c4 (kpw_trans hK3 c5) (pf σ4 c3) c2 (by rw [List.length_append]; simp only [List.length_singleton]; rw [Nat.pow_zero] at hLn ⊢; omega)
          · rw [if_neg (fun z => hq (he.mp z)), if_neg hq, nm_eq, nI_1, List.append_nil]
            exact nxt_ _ _ hI3 hK3 (pf _ hP3) hR3 (by omega)
        · rw [nI_1, if_neg (nI_ge (show d + 1 < n by omega) (by omega))]
          obtain ⟨σ4, c1, c2, c3, c4, c5⟩ := hrc (by omega) (pushD Y T0 D b dd).1 (σ1.2 2 6) (left ||| σ1.2 2 7) _ _ L _ g8 g4 hl' hI3 h54 hP3 hR3 (by omega)
          rw [show (setI σ1 28 d (nI (num (4 * b + dd)))).2 2 6 = σ1.2 2 6 from rfl, c1, bv_some, nm_eq, nI_1]
          exact nxt_ _ σ4 c2 (kpw_trans hK3 c5) (pf σ4 c3) c4 (by rw [List.length_append]; omega)
      · rw [if_neg (fun z => hc (hcut.mp z)), nm_eq, nI_1]
        obtain ⟨i, hi1, hi2, hi3⟩ : ∃ i, i < 64 ∧ orT l (pushD Y T0 D b dd).2.1 i = true ∧ t i = false := by
          refine Classical.byContradiction fun hno => hc fun i h1 h2 => ?_
          cases q : t i
          · exact absurd ⟨i, h1, h2, q⟩ hno
          · rfl
        rw [wkc_cut r _ _ _ i hi1 hi2 hi3, List.append_nil]
        exact nxt_ L σ1 g2 (kpw_x g3) hP1 hR1 (by omega)

/-! ===== push, would, tracks ===== -/
def FrM (τ τ' : Mem) : Prop := (∀ o, (1 ≤ o ∧ o ≤ 3) ∨ o = 10 ∨ o = 12 ∨ o = 13 ∨ (28 ≤ o ∧ o ≤ 30) → τ'.1 o = τ.1 o) ∧ (∀ q, q ≤ 3 ∨ q = 22 ∨ q = 51 → τ'.1 0 q = τ.1 0 q) ∧ ∀ o, o = 11 ∨ o = 14 → τ'.2 o = τ.2 o
theorem frm_rfl (τ : Mem) : FrM τ τ := ⟨fun _ _ => rfl, fun _ _ => rfl, fun _ _ => rfl⟩
theorem frm_trans {a b c : Mem} (h : FrM a b) (h' : FrM b c) : FrM a c := ⟨fun o ho => (h'.1 o ho).trans (h.1 o ho), fun q hq => (h'.2.1 q hq).trans (h.2.1 q hq), fun o ho => (h'.2.2 o ho).trans (h.2.2 o ho)⟩
theorem frm_sl {Y : Yd} {r : PR} {τ τ' : Mem} (h : SlM Y r τ τ') : FrM τ τ' := ⟨fun o ho => h.1 o (by omega) (by omega), fun q hq => h.2.1 q (by omega), fun o ho => h.2.2.1 o (by omega)⟩
theorem frm_ms {Y : Yd} {τ τ' : Mem} (h : FrM τ τ') (hM : MS' Y τ) : MS' Y τ' := ms_cong (h.1 1 (by omega)) (h.1 2 (by omega)) (h.1 3 (by omega)) (fun q hq => h.2.1 q (by omega)) hM
theorem frm_setA {τ : Mem} {o : Nat} {f : Nat → Int32} (h : o ≠ 0 ∧ ¬ ((1 ≤ o ∧ o ≤ 3) ∨ o = 10 ∨ o = 12 ∨ o = 13 ∨ (28 ≤ o ∧ o ≤ 30))) : FrM τ (setA τ o f) := ⟨fun q hq => setA_ne1 (by omega), fun q hq => by rw [setA_ne1 (by omega)], fun _ _ => rfl⟩
theorem frm_setI {τ : Mem} {o k : Nat} {v : Int32} (h : o ≠ 0 ∧ ¬ ((1 ≤ o ∧ o ≤ 3) ∨ o = 10 ∨ o = 12 ∨ o = 13 ∨ (28 ≤ o ∧ o ≤ 30))) : FrM τ (setI τ o k v) := ⟨fun q hq => setI_ne1 (by omega), fun q hq => by rw [setI_ne1 (by omega)], fun _ _ => rfl⟩
theorem frm_setI0 {τ : Mem} {k : Nat} {v : Int32} (h : ¬ (k ≤ 3 ∨ k = 22 ∨ k = 51)) : FrM τ (setI τ 0 k v) := ⟨fun q hq => setI_ne1 (by omega), fun q hq => by rw [setI_s1]; simp only [upd]; rw [if_neg (by omega)], fun _ _ => rfl⟩
theorem frm_setL {τ : Mem} {o k : Nat} {v : Int64} (h : o ≠ 11 ∧ o ≠ 14) : FrM τ (setL τ o k v) := ⟨fun _ _ => rfl, fun _ _ => rfl, fun q hq => setL_ne2 (by omega)⟩
theorem rm_fr {A : As} {τ τ' : Mem} (h : RM A τ) (hf : FrM τ τ') {D : Dy} (hE : EncM (aY A) D (τ'.1 4) (τ'.2 0 8)) (h17 : τ'.2 0 17 = 0) : RM (wD A D (aN A)) τ' := by
  refine ⟨frm_ms hf h.1, hE, ?_, ?_, ?_, h17, ?_, ?_⟩
  · show MH (aY A) (aN A) (aH A) τ'
    unfold MH
    rw [hf.2.1 22 (by omega), hf.1 10 (by omega), hf.2.2 11 (by omega)]
    exact h.2.2.1
  · show MI' (aY A) (aI A) τ'
    unfold MI'
    rw [hf.1 12 (by omega), hf.1 13 (by omega), hf.2.2 14 (by omega)]
    exact h.2.2.2.1
  · show MC (aS A) τ'
    intro k hk
    have := h.2.2.2.2.1 k hk
    unfold shM at this ⊢
    rw [hf.1 28 (by omega), hf.1 29 (by omega), hf.1 30 (by omega)]
    exact this
  · show τ'.1 0 51 = aT A
    rw [hf.2.1 51 (by omega)]; exact h.2.2.2.2.2.2.1
  · show τ'.1 0 0 = aF A
    rw [hf.2.1 0 (by omega)]; exact h.2.2.2.2.2.2.2
def FrX (σ σ' : Mem) : Prop := (∀ o, o ≤ 1 ∨ (7 ≤ o ∧ o ≤ 14) ∨ (16 ≤ o ∧ o ≤ 21) → σ'.1 o = σ.1 o) ∧ ∀ o, o ≤ 1 ∨ o = 16 ∨ o = 17 → σ'.2 o = σ.2 o
theorem frx_rfl (σ : Mem) : FrX σ σ := ⟨fun _ _ => rfl, fun _ _ => rfl⟩
theorem frx_trans {a b c : Mem} (h : FrX a b) (h' : FrX b c) : FrX a c := ⟨fun o ho => (h'.1 o ho).trans (h.1 o ho), fun q hq => (h'.2 q hq).trans (h.2 q hq)⟩
theorem frx_go {Y : Yd} {r : PR} {σ σ' : Mem} (h : GoX Y r σ σ') : FrX σ σ' := ⟨fun o ho => h.1 o (by omega) (by omega), fun o ho => h.2.1 o (by omega)⟩
theorem frx_xs {Y : Yd} {σ σ' : Mem} (h : FrX σ σ') (hX : XS Y σ) : XS Y σ' := xs_cong (h.1 1 (by omega)) (h.1 18 (by omega)) (h.1 19 (by omega)) (h.1 20 (by omega)) (h.1 21 (by omega)) (h.2 1 (by omega)) hX
theorem rx_fr {A : As} {σ σ' : Mem} (h : RX A σ) (hf : FrX σ σ') (hL : XLd (aY A) σ') (h5 : σ'.2 2 5 = 0) : RX A σ' := by
  refine ⟨frx_xs hf h.1, ?_, ?_, ?_, ?_, ⟨h5, hL⟩, ?_, ?_⟩
  · rw [hf.2 0 (by omega)]; exact h.2.1
  · unfold XH
    rw [hf.1 0 (by omega), hf.2 16 (by omega)]
    exact h.2.2.1
  · unfold XI
    rw [hf.2 17 (by omega)]
    exact h.2.2.2.1
  · exact xc_cong h.2.2.2.2.1 (fun j h1 h2 => hf.1 j (by omega))
  · rw [hf.1 0 (by omega)]; exact h.2.2.2.2.2.2.1
  · rw [hf.1 0 (by omega)]; exact h.2.2.2.2.2.2.2
/-! pushes by which nothing goes -/
theorem sl_mono {Y : Yd} {T : Nat → Bool} {D0 D : Dy} {k d : Nat} : ∀ (n c : Nat) (tr : Nat → Bool) (i : Nat), tr i = true → (slD Y T D0 D k d n c tr).2.2.1 i = true := by
  intro n
  induction n with
  | zero => intro c tr i h; exact h
  | succ n ih =>
    intro c tr i h
    have ha : ∀ e, adT tr e i = true := fun e => by unfold adT; rw [h]; rfl
    cases hn : nxt Y c d with
    | none => rw [sl_wall hn]; exact h
    | some e =>
      cases hb : blkD Y D0 e with
      | some j => rw [sl_str hn hb]; exact h
      | none =>
        by_cases w3 : whatD Y T D0 e = 3
        · rw [sl_crk hn hb w3]; exact ha e
        · by_cases w4 : 4 ≤ whatD Y T D0 e
          · rw [sl_home hn hb w4]; exact ha e
          · by_cases w2 : whatD Y T D0 e = 2 ∧ dk Y k < 2
            · rw [sl_sand hn hb w2]; exact ha e
            · rw [sl_on hn hb w3 w4 w2]; exact ih e _ i (ha e)
theorem sl_none {Y : Yd} {T : Nat → Bool} {D0 D : Dy} {k d : Nat} {n c : Nat} {tr : Nat → Bool} (h : ∀ i, (slD Y T D0 D k d n c tr).2.2.1 i = false) : (slD Y T D0 D k d n c tr).2.1 = setPl D k c ∧ (slD Y T D0 D k d n c tr).2.2.1 = tr ∧ (slD Y T D0 D k d n c tr).2.2.2 = none := by
  have ha : ∀ e, adT tr e e = true := fun e => by unfold adT; rw [decide_eq_true rfl, Bool.or_true]
  cases n with
  | zero => exact ⟨rfl, rfl, rfl⟩
  | succ n =>
    cases hn : nxt Y c d with
    | none => rw [sl_wall hn]; exact ⟨rfl, rfl, rfl⟩
    | some e =>
      cases hb : blkD Y D0 e with
      | some j => rw [sl_str hn hb]; exact ⟨rfl, rfl, rfl⟩
      | none =>
        exfalso
        have he := h e
        by_cases w3 : whatD Y T D0 e = 3
        · rw [sl_crk hn hb w3] at he
          exact absurd (ha e) (by rw [show adT tr e e = false from he]; decide)
        · by_cases w4 : 4 ≤ whatD Y T D0 e
          · rw [sl_home hn hb w4] at he
            exact absurd (ha e) (by rw [show adT tr e e = false from he]; decide)
          · by_cases w2 : whatD Y T D0 e = 2 ∧ dk Y k < 2
            · rw [sl_sand hn hb w2] at he
              exact absurd (ha e) (by rw [show adT tr e e = false from he]; decide)
            · rw [sl_on hn hb w3 w4 w2, sl_mono n e _ e (ha e)] at he
              cases he
theorem ch_mono {Y : Yd} {T : Nat → Bool} {D0 : Dy} {d : Nat} : ∀ (n k : Nat) (D : Dy) (tr : Nat → Bool) (i : Nat), tr i = true → (chD Y T D0 d n k D tr).2.1 i = true := by
  intro n
  induction n with
  | zero => intro k D tr i h; exact h
  | succ n ih =>
    intro k D tr i h
    have h2 := sl_mono (Y := Y) (T := T) (D0 := D0) (D := D) (k := k) (d := d) 6 (D0.1 k) tr i h
    unfold chD
    cases hr : (slD Y T D0 D k d 6 (D0.1 k) tr).1 with
    | none => exact h2
    | some j =>
      by_cases q : 1 ≤ dk Y k
      · simp only [if_pos q]; exact ih j _ _ i h2
      · simp only [if_neg q]; exact h2
theorem ch_none {Y : Yd} {T : Nat → Bool} {D0 : Dy} {d : Nat} : ∀ (n k : Nat) (tr : Nat → Bool), (∀ i, (chD Y T D0 d n k D0 tr).2.1 i = false) → (chD Y T D0 d n k D0 tr).1 = D0 ∧ (chD Y T D0 d n k D0 tr).2.2 = none := by
  intro n
  induction n with
  | zero => intro k tr h; exact ⟨rfl, rfl⟩
  | succ n ih =>
    intro k tr h
    have hs : ∀ i, (slD Y T D0 D0 k d 6 (D0.1 k) tr).2.2.1 i = false := by
      intro i
      cases q : (slD Y T D0 D0 k d 6 (D0.1 k) tr).2.2.1 i
      · rfl
      · exfalso
        have hi := h i
        unfold chD at hi
        cases hr : (slD Y T D0 D0 k d 6 (D0.1 k) tr).1 with
        | none => rw [hr] at hi; simp only at hi; rw [q] at hi; cases hi
        | some j =>
          rw [hr] at hi
          by_cases z : 1 ≤ dk Y k
          · simp only [if_pos z] at hi
            rw [ch_mono n j _ _ i q] at hi; cases hi
          · simp only [if_neg z] at hi
            rw [q] at hi; cases hi
    obtain ⟨s1, s2, s3⟩ := sl_none hs
    rw [set_self] at s1
    unfold chD at h ⊢
    cases hr : (slD Y T D0 D0 k d 6 (D0.1 k) tr).1 with
    | none => exact ⟨s1, s3⟩
    | some j =>
      by_cases z : 1 ≤ dk Y k
      · rw [hr] at h
        simp only [if_pos z] at h ⊢
        rw [s1, s2] at h ⊢
        exact ih j tr h
      · simp only [if_neg z]
        exact ⟨s1, s3⟩
theorem ch_ok {Y : Yd} (hY : WFY Y) {T : Nat → Bool} {D0 : Dy} {d : Nat} : ∀ (n k : Nat) (D : Dy) (tr : Nat → Bool), k < db Y → D0.1 k < dn Y → far Y d (D0.1 k) < n → WFD Y D → (∀ i, tr i = true → i < dn Y) → PuP Y (chD Y T D0 d n k D tr) := by
  intro n
  induction n with
  | zero => intro k D tr hk hp hf; omega
  | succ n ih =>
    intro k D tr hk hp hf hD htr
    obtain ⟨p1, p2, p3, p4, p5, p6⟩ := sl_spec hY T D0 hD k d 6 (D0.1 k) tr hp (far_lt hY hp)
    have hP : PuP Y (slD Y T D0 D k d 6 (D0.1 k) tr).2 := ⟨p1, fun i h => by
      rcases p3 i h with q | q
      · exact htr i q
      · exact q, fun g h => by have := p4 g h; exact ⟨by omega, this.2.1⟩⟩
    unfold chD
    cases hr : (slD Y T D0 D k d 6 (D0.1 k) tr).1 with
    | none => exact hP
    | some j =>
      obtain ⟨j1, j2, j3, j4, j5, j6, j7⟩ := p6 j hr
      by_cases q : 1 ≤ dk Y k
      · simp only [if_pos q]
        exact ih j _ _ j3 j4 (by omega) p1 hP.2.1
      · simp only [if_neg q]
        exact hP
theorem pu_ok {Y : Yd} (hY : WFY Y) {T : Nat → Bool} {D : Dy} (hD : WFD Y D) {k d : Nat} (hk : k < db Y) : PuP Y (pushD Y T D k d) := by
  unfold pushD
  by_cases e : D.1 k < 36
  · have hp : D.1 k < dn Y := by rcases hD k hk with z | z | z | z <;> have := dn_le hY <;> omega
    rw [if_pos e]
    exact ch_ok hY 6 k D _ hk hp (far_lt hY hp) hD (fun i h => by cases h)
  · rw [if_neg e]
    exact ⟨hD, (fun i h => by cases h), (fun g h => by cases h)⟩
theorem any_f {Y : Yd} {tr : Nat → Bool} (ht : ∀ i, tr i = true → i < dn Y) (h : anyT Y tr = false) (i : Nat) : tr i = false := by
  cases q : tr i
  · rfl
  · unfold anyT at h
    rw [List.any_eq_false] at h
    exact absurd q (h i (List.mem_range.mpr (ht i q)))
theorem pu_none {Y : Yd} (hY : WFY Y) {T : Nat → Bool} {D : Dy} (hD : WFD Y D) {k d : Nat} (hk : k < db Y) (h : anyT Y (pushD Y T D k d).2.1 = false) : (pushD Y T D k d).1 = D := by
  have hf := any_f (pu_ok hY hD hk (T := T) (d := d)).2.1 h
  unfold pushD at hf ⊢
  by_cases e : D.1 k < 36
  · rw [if_pos e] at hf ⊢
    exact (ch_none 6 k _ hf).1
  · rw [if_neg e]
def Held (Y : Yd) (D : Dy) (l : Nat) (τ : Mem) : Prop := EncM Y D (fun k => τ.1 8 (6 * l + k)) (τ.2 9 l)
def heldM (τ : Mem) (l : Nat) : Mem := setL (setA τ 8 (fun j => if 6 * l + 0 ≤ j ∧ j < 6 * l + 6 then τ.1 4 (j - 6 * l) else τ.1 8 j)) 9 l (τ.2 0 8)
def givenM (τ : Mem) (l : Nat) : Mem := setL (setA τ 4 (fun j => if 0 ≤ j ∧ j < 6 then τ.1 8 (6 * l + j) else τ.1 4 j)) 0 8 (τ.2 9 l)
theorem held_ok {Y : Yd} {D : Dy} {τ : Mem} {l : Nat} (h : EncM Y D (τ.1 4) (τ.2 0 8)) : Held Y D l (heldM τ l) := by
  refine ⟨fun k hk => ?_, fun i => ?_⟩
  · show (if 6 * l + 0 ≤ 6 * l + k ∧ 6 * l + k < 6 * l + 6 then τ.1 4 (6 * l + k - 6 * l) else _) = _
    rw [if_pos (by omega), show 6 * l + k - 6 * l = k by omega]
    exact h.1 k hk
  · show bit64 (vp_updL (τ.2 9) l (τ.2 0 8) l) i = _
    simp only [vp_updL, if_true]
    exact h.2 i
theorem held_ne {Y : Yd} {D : Dy} {τ : Mem} {l q : Nat} (hq : q ≠ l) (h : Held Y D q τ) : Held Y D q (heldM τ l) := by
  refine ⟨fun k hk => ?_, fun i => ?_⟩
  · show (if 6 * l + 0 ≤ 6 * q + k ∧ 6 * q + k < 6 * l + 6 then _ else τ.1 8 (6 * q + k)) = _
    rw [if_neg (by omega)]
    exact h.1 k hk
  · show bit64 (vp_updL (τ.2 9) l (τ.2 0 8) q) i = _
    simp only [vp_updL, if_neg hq]
    exact h.2 i
theorem held_enc {Y : Yd} {D : Dy} {τ : Mem} {l : Nat} (h : EncM Y D (τ.1 4) (τ.2 0 8)) : EncM Y D ((heldM τ l).1 4) ((heldM τ l).2 0 8) := h
theorem given_enc {Y : Yd} {D : Dy} {τ : Mem} {l : Nat} (h : Held Y D l τ) : EncM Y D ((givenM τ l).1 4) ((givenM τ l).2 0 8) := by
  refine ⟨fun k hk => ?_, h.2⟩
  show (if 0 ≤ k ∧ k < 6 then τ.1 8 (6 * l + k) else _) = _
  rw [if_pos (by omega)]
  exact h.1 k hk
theorem held_fr (τ : Mem) (l : Nat) : FrM τ (heldM τ l) := frm_trans (b := setA τ 8 _) (frm_setA (by omega)) (frm_setL (by omega))
theorem given_fr (τ : Mem) (l : Nat) : FrM τ (givenM τ l) := frm_trans (b := setA τ 4 _) (frm_setA (by omega)) (frm_setL (by omega))
theorem given_held {Y : Yd} {D : Dy} {τ : Mem} {l q : Nat} (h : Held Y D q τ) : Held Y D q (givenM τ l) := h
theorem sl_held {Y : Yd} {r : PR} {τ τ' : Mem} (h : SlM Y r τ τ') {D : Dy} {q : Nat} (hh : Held Y D q τ) : Held Y D q τ' := by
  unfold Held
  rw [h.1 8 (by decide) (by decide), h.2.2.1 9 (by decide)]
  exact hh

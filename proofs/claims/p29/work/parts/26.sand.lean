/-! ===== sand: in the abstract ===== -/
def anyF (f : Nat → Bool) : Nat → Nat → Bool
  | _, 0 => false
  | p, m + 1 => f p || anyF f (p + 1) m
theorem anyF_iff {f : Nat → Bool} : ∀ {m p : Nat}, anyF f p m = true ↔ ∃ q, p ≤ q ∧ q < p + m ∧ f q = true := by
  intro m
  induction m with
  | zero => intro p; exact ⟨(fun h => by cases h), (fun h => by obtain ⟨q, h1, h2, _⟩ := h; omega)⟩
  | succ m ih =>
    intro p
    unfold anyF
    rw [Bool.or_eq_true, ih]
    constructor
    · rintro (h | ⟨q, h1, h2, h3⟩)
      · exact ⟨p, Nat.le_refl _, by omega, h⟩
      · exact ⟨q, by omega, by omega, h3⟩
    · rintro ⟨q, h1, h2, h3⟩
      by_cases e : q = p
      · subst e; exact .inl h3
      · exact .inr ⟨q, by omega, by omega, h3⟩
theorem anyF_cong {f g : Nat → Bool} : ∀ {m p : Nat}, (∀ q, p ≤ q → q < p + m → f q = g q) → anyF f p m = anyF g p m := by
  intro m
  induction m with
  | zero => intro p _; rfl
  | succ m ih =>
    intro p h
    unfold anyF
    rw [h p (Nat.le_refl _) (by omega), ih fun q h1 h2 => h q (by omega) (by omega)]
/-- the p-th push -/
abbrev pp (Y : Yd) (T : Nat → Bool) (D : Dy) (p : Nat) : PR := pushD Y T D (p / 4) (p % 4)
def bh (Y : Yd) (T : Nat → Bool) (k g : Nat) : Nat → Dy → Bool
  | 0, _ => false
  | n + 1, D => anyF (fun p => anyT Y (pp Y T D p).2.1 && (decide ((pp Y T D p).2.2 = some (k, g)) || bh Y T k g n (pp Y T D p).1)) 0 (4 * db Y)
def sg (c : Nat) : Nat → Bool := fun i => decide (i = c)
def leT (T' T : Nat → Bool) : Prop := ∀ i, T' i = true → T i = true
/-- sand that stopped nobody may be left out -/
theorem sl_sub {Y : Yd} {T : Nat → Bool} (hT : TOk Y T) (D0 D : Dy) (k d : Nat) : ∀ (n c : Nat) (tr : Nat → Bool), ∃ S : Option Nat, (∀ s, S = some s → T s = true ∧ (slD Y T D0 D k d n c tr).1 = none ∧ (slD Y T D0 D k d n c tr).2.2.2 = none) ∧ ∀ T', leT T' T → (∀ s, S = some s → T' s = true) → slD Y T' D0 D k d n c tr = slD Y T D0 D k d n c tr := by
  intro n
  induction n with
  | zero => intro c tr; exact ⟨none, (fun s h => by cases h), fun _ _ _ => rfl⟩
  | succ n ih =>
    intro c tr
    cases hn : nxt Y c d with
    | none => exact ⟨none, (fun s h => by cases h), fun T' _ _ => by rw [sl_wall hn, sl_wall hn]⟩
    | some e =>
      cases hb : blkD Y D0 e with
      | some j => exact ⟨none, (fun s h => by cases h), fun T' _ _ => by rw [sl_str hn hb, sl_str hn hb]⟩
      | none =>
        by_cases ht : T e = true
        · have hg := hT e ht
          have w2 : whatD Y T D0 e = 2 := what_2.mpr (.inr ht)
          by_cases q : dk Y k < 2
          · refine ⟨some e, ?_, fun T' h1 h2 => ?_⟩
            · rintro s ⟨⟩
              rw [sl_sand hn hb ⟨w2, q⟩]
              exact ⟨ht, rfl, rfl⟩
            · have w2' : whatD Y T' D0 e = 2 := what_2.mpr (.inr (h2 e rfl))
              rw [sl_sand hn hb ⟨w2, q⟩, sl_sand hn hb ⟨w2', q⟩]
          · obtain ⟨S, i1, i2⟩ := ih e (adT tr e)
            have on : slD Y T D0 D k d (n + 1) c tr = slD Y T D0 D k d n e (adT tr e) := sl_on hn hb (by omega) (by omega) (fun z => q z.2)
            rw [on]
            refine ⟨S, i1, fun T' h1 h2 => ?_⟩
            have w' : whatD Y T' D0 e = 2 ∨ whatD Y T' D0 e = 0 := by
              unfold whatD
              by_cases z : T' e = true
              · rw [if_pos z]; exact .inl rfl
              · rw [if_neg z, if_neg (by omega)]; exact .inr hg.2
            rw [sl_on (T := T') hn hb (by omega) (by omega) (fun z => q z.2)]
            exact i2 T' h1 h2
        · have hw : ∀ T', leT T' T → whatD Y T' D0 e = whatD Y T D0 e := fun T' h1 => by
            unfold whatD
            rw [if_neg ht, if_neg (fun z => ht (h1 e z))]
          by_cases w3 : whatD Y T D0 e = 3
          · rw [sl_crk hn hb w3]
            exact ⟨none, (fun s h => by cases h), fun T' h1 _ => sl_crk hn hb (by rw [hw T' h1]; exact w3)⟩
          · by_cases w4 : 4 ≤ whatD Y T D0 e
            · rw [sl_home hn hb w4]
              exact ⟨none, (fun s h => by cases h), fun T' h1 _ => by rw [sl_home hn hb (by rw [hw T' h1]; exact w4), hw T' h1]⟩
            · by_cases w2 : whatD Y T D0 e = 2 ∧ dk Y k < 2
              · rw [sl_sand hn hb w2]
                exact ⟨none, (fun s h => by cases h), fun T' h1 _ => sl_sand hn hb (by rw [hw T' h1]; exact w2)⟩
              · rw [sl_on hn hb w3 w4 w2]
                obtain ⟨S, i1, i2⟩ := ih e (adT tr e)
                refine ⟨S, i1, fun T' h1 h2 => ?_⟩
                rw [sl_on (T := T') hn hb (by rw [hw T' h1]; exact w3) (by rw [hw T' h1]; exact w4) (by rw [hw T' h1]; exact w2)]
                exact i2 T' h1 h2
theorem ch_sub {Y : Yd} {T : Nat → Bool} (hT : TOk Y T) (D0 : Dy) (d : Nat) : ∀ (n k : Nat) (D : Dy) (tr : Nat → Bool), ∃ S : Option Nat, (∀ s, S = some s → T s = true ∧ (chD Y T D0 d n k D tr).2.2 = none) ∧ ∀ T', leT T' T → (∀ s, S = some s → T' s = true) → chD Y T' D0 d n k D tr = chD Y T D0 d n k D tr := by
  intro n
  induction n with
  | zero => intro k D tr; exact ⟨none, (fun s h => by cases h), fun _ _ _ => rfl⟩
  | succ n ih =>
    intro k D tr
    obtain ⟨S, s1, s2⟩ := sl_sub hT D0 D k d 6 (D0.1 k) tr
    cases hr : (slD Y T D0 D k d 6 (D0.1 k) tr).1 with
    | none =>
      have e1 : chD Y T D0 d (n + 1) k D tr = (slD Y T D0 D k d 6 (D0.1 k) tr).2 := by simp only [chD, hr]
      refine ⟨S, fun s h => ?_, fun T' h1 h2 => ?_⟩
      · rw [e1]
        exact ⟨(s1 s h).1, (s1 s h).2.2⟩
      · have e2 := s2 T' h1 h2
        rw [e1]
        simp only [chD, e2, hr]
    | some j =>
      have hS : S = none := by
        cases S with
        | none => rfl
        | some s => have := (s1 s rfl).2.1; rw [hr] at this; cases this
      subst hS
      by_cases q : 1 ≤ dk Y k
      · have e1 : chD Y T D0 d (n + 1) k D tr = chD Y T D0 d n j (slD Y T D0 D k d 6 (D0.1 k) tr).2.1 (slD Y T D0 D k d 6 (D0.1 k) tr).2.2.1 := by simp only [chD, hr, if_pos q]
        obtain ⟨S2, i1, i2⟩ := ih j (slD Y T D0 D k d 6 (D0.1 k) tr).2.1 (slD Y T D0 D k d 6 (D0.1 k) tr).2.2.1
        rw [e1]
        refine ⟨S2, i1, fun T' h1 h2 => ?_⟩
        have e2 := s2 T' h1 (fun s h => by cases h)
        have e3 : chD Y T' D0 d (n + 1) k D tr = chD Y T' D0 d n j (slD Y T D0 D k d 6 (D0.1 k) tr).2.1 (slD Y T D0 D k d 6 (D0.1 k) tr).2.2.1 := by simp only [chD, e2, hr, if_pos q]
        rw [e3]
        exact i2 T' h1 h2
      · have e1 : chD Y T D0 d (n + 1) k D tr = (slD Y T D0 D k d 6 (D0.1 k) tr).2 := by simp only [chD, hr, if_neg q]
        refine ⟨none, (fun s h => by cases h), fun T' h1 h2 => ?_⟩
        have e2 := s2 T' h1 (fun s h => by cases h)
        rw [e1]
        simp only [chD, e2, hr, if_neg q]
theorem pu_sub {Y : Yd} {T : Nat → Bool} (hT : TOk Y T) (D : Dy) (k d : Nat) : ∃ S : Option Nat, (∀ s, S = some s → T s = true ∧ (pushD Y T D k d).2.2 = none) ∧ ∀ T', leT T' T → (∀ s, S = some s → T' s = true) → pushD Y T' D k d = pushD Y T D k d := by
  by_cases e : D.1 k < 36
  · have h : ∀ T', pushD Y T' D k d = chD Y T' D d 6 k D (fun _ => false) := fun T' => by unfold pushD; rw [if_pos e]
    obtain ⟨S, s1, s2⟩ := ch_sub hT D d 6 k D (fun _ => false)
    refine ⟨S, fun s hs => ?_, fun T' h1 h2 => ?_⟩
    · rw [h]; exact s1 s hs
    · rw [h, h]; exact s2 T' h1 h2
  · have h : ∀ T', pushD Y T' D k d = (D, fun _ => false, none) := fun T' => by unfold pushD; rw [if_neg e]
    exact ⟨none, (fun s h => by cases h), fun T' _ _ => by rw [h, h]⟩
theorem bh_1 {Y : Yd} {T T' : Nat → Bool} (hT : TOk Y T) (h' : leT T' T) {k g : Nat} {D : Dy} (h : bh Y T k g 1 D = true) : bh Y T' k g 1 D = true := by
  unfold bh at h ⊢
  rw [anyF_iff] at h ⊢
  obtain ⟨p, h1, h2, h3⟩ := h
  refine ⟨p, h1, h2, ?_⟩
  simp only [bh, Bool.or_false, Bool.and_eq_true, decide_eq_true_eq] at h3 ⊢
  obtain ⟨S, s1, s2⟩ := pu_sub hT D (p / 4) (p % 4)
  rw [show pp Y T' D p = pp Y T D p from s2 T' h' (fun s hs => by have := (s1 s hs).2; rw [show (pushD Y T D (p / 4) (p % 4)).2.2 = some (k, g) from h3.2] at this; cases this)]
  exact h3
theorem bh_2 {Y : Yd} {T : Nat → Bool} (hT : TOk Y T) {k g : Nat} {D : Dy} (h : bh Y T k g 2 D = true) : bh Y T0 k g 2 D = true ∨ ∃ s, T s = true ∧ bh Y (sg s) k g 2 D = true := by
  unfold bh at h
  rw [anyF_iff] at h
  obtain ⟨p, h1, h2, h3⟩ := h
  rw [Bool.and_eq_true, Bool.or_eq_true, decide_eq_true_eq] at h3
  obtain ⟨S, s1, s2⟩ := pu_sub hT D (p / 4) (p % 4)
  have go : ∀ T', leT T' T → (∀ s, S = some s → T' s = true) → bh Y T' k g 2 D = true := by
    intro T' h' hs
    show anyF _ 0 (4 * db Y) = true
    rw [anyF_iff]
    refine ⟨p, h1, h2, ?_⟩
    show (anyT Y (pp Y T' D p).2.1 && (decide ((pp Y T' D p).2.2 = some (k, g)) || bh Y T' k g 1 (pp Y T' D p).1)) = true
    rw [show pp Y T' D p = pp Y T D p from s2 T' h' hs, Bool.and_eq_true, Bool.or_eq_true, decide_eq_true_eq]
    refine ⟨h3.1, ?_⟩
    rcases h3.2 with q | q
    · exact .inl q
    · exact .inr (bh_1 hT h' q)
  cases S with
  | none => exact .inl (go T0 (fun i h => by cases h) (fun s h => by cases h))
  | some s =>
    refine .inr ⟨s, (s1 s rfl).1, go (sg s) (fun i h => ?_) (fun z hz => ?_)⟩
    · unfold sg at h
      rw [decide_eq_true_eq] at h
      rw [h]; exact (s1 s rfl).1
    · cases hz
      unfold sg
      exact decide_eq_true rfl
theorem bh_n {Y : Yd} {T : Nat → Bool} (hT : TOk Y T) {k g n : Nat} (hn : n = 1 ∨ n = 2) {D : Dy} (h : bh Y T k g n D = true) : bh Y T0 k g n D = true ∨ ∃ s, T s = true ∧ bh Y (sg s) k g n D = true := by
  rcases hn with rfl | rfl
  · exact .inl (bh_1 hT (fun i h => by cases h) h)
  · exact bh_2 hT h
/-! who comes home lies there -/
theorem ch_home {Y : Yd} (hY : WFY Y) {T : Nat → Bool} {D0 : Dy} {d k g : Nat} : ∀ (n b : Nat) (D : Dy) (tr : Nat → Bool), b < db Y → D0.1 b < dn Y → far Y d (D0.1 b) < n → WFD Y D → D.1 k ≠ 37 + g → ((chD Y T D0 d n b D tr).1.1 k = 37 + g ↔ (chD Y T D0 d n b D tr).2.2 = some (k, g)) := by
  intro n
  induction n with
  | zero => intro b D tr hb hp hf; omega
  | succ n ih =>
    intro b D tr hb hp hf hD hk
    obtain ⟨p1, p2, p3, p4, p5, p6⟩ := sl_spec hY T D0 hD b d 6 (D0.1 b) tr hp (far_lt hY hp)
    have key : ((slD Y T D0 D b d 6 (D0.1 b) tr).2.1.1 k = 37 + g ↔ (slD Y T D0 D b d 6 (D0.1 b) tr).2.2.2 = some (k, g)) := by
      by_cases e : k = b
      · subst e
        cases hh : (slD Y T D0 D k d 6 (D0.1 k) tr).2.2.2 with
        | none =>
          have := p5 hh
          constructor
          · intro z; omega
          · intro z; cases z
        | some q =>
          obtain ⟨q1, q2, q3, q4⟩ := p4 q hh
          obtain ⟨qa, qb⟩ := q
          change qa = k at q1
          change _ = 37 + qb at q4
          subst q1
          rw [q4]
          constructor
          · intro z; rw [show qb = g by omega]
          · intro z; cases z; rfl
      · rw [p2 k e]
        constructor
        · intro z; exact absurd z hk
        · intro z
          have := (p4 _ z).1
          exact absurd this e
    unfold chD
    cases hr : (slD Y T D0 D b d 6 (D0.1 b) tr).1 with
    | none => exact key
    | some j =>
      obtain ⟨j1, j2, j3, j4, j5, j6, j7⟩ := p6 j hr
      by_cases q : 1 ≤ dk Y b
      · simp only [if_pos q]
        refine ih j _ _ j3 j4 (by omega) p1 (fun z => ?_)
        rw [key.mp z] at j1; cases j1
      · simp only [if_neg q]
        exact key
theorem pu_home {Y : Yd} (hY : WFY Y) {T : Nat → Bool} {D : Dy} (hD : WFD Y D) {b d k g : Nat} (hb : b < db Y) (hk : D.1 k ≠ 37 + g) : ((pushD Y T D b d).1.1 k = 37 + g ↔ (pushD Y T D b d).2.2 = some (k, g)) := by
  have h36 := dn_le hY
  unfold pushD
  by_cases e : D.1 b < 36
  · have hp : D.1 b < dn Y := by rcases hD b hb with z | z | z | z <;> omega
    rw [if_pos e]
    exact ch_home hY 6 b D _ hb hp (far_lt hY hp) hD hk
  · rw [if_neg e]
    constructor
    · intro z; exact absurd z hk
    · intro z; cases z

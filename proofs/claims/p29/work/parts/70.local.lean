/-! ===== a push reads and changes its own cells alone ===== -/
/-- blocks come to new places, cracks are filled -/
def ap (m : Nat → Option Nat) (f : Nat → Bool) (D : Dy) : Dy := (fun j => (m j).getD (D.1 j), fun e => f e || D.2 e)
def one (k x : Nat) : Nat → Option Nat := fun j => if j = k then some x else none
theorem set_ap (D : Dy) (k x : Nat) : setPl D k x = ap (one k x) (fun _ => false) D := by
  refine Prod.ext ?_ ?_
  · funext j
    show (if j = k then x else D.1 j) = (if j = k then some x else none).getD (D.1 j)
    by_cases h : j = k
    · rw [if_pos h, if_pos h]; rfl
    · rw [if_neg h, if_neg h]; rfl
  · funext e
    show D.2 e = (false || D.2 e)
    rw [Bool.false_or]
theorem fil_ap (D : Dy) (k x e : Nat) : filC (setPl D k x) e = ap (one k x) (fun i => i == e) D := by
  rw [set_ap]
  refine Prod.ext rfl ?_
  funext i
  show (i == e || (false || D.2 i)) = (i == e || D.2 i)
  rw [Bool.false_or]
theorem ap_ap (m m' : Nat → Option Nat) (f f' : Nat → Bool) (D : Dy) : ap m' f' (ap m f D) = ap (fun j => (m' j).or (m j)) (fun e => f' e || f e) D := by
  refine Prod.ext ?_ ?_
  · funext j
    show (m' j).getD ((m j).getD (D.1 j)) = ((m' j).or (m j)).getD (D.1 j)
    cases m' j <;> rfl
  · funext e
    show (f' e || (f e || D.2 e)) = (f' e || f e || D.2 e)
    rw [Bool.or_assoc]
/-- the same on the cells H -/
def Ag (Y : Yd) (H : Nat → Prop) (D D' : Dy) : Prop := (∀ j, j < db Y → ∀ e, e < dn Y → H e → (D.1 j = e ↔ D'.1 j = e)) ∧ ∀ e, e < dn Y → H e → dg Y e = 3 → D.2 e = D'.2 e
def Cl (Y : Yd) (d : Nat) (H : Nat → Prop) : Prop := ∀ c e, c < dn Y → H c → nxt Y c d = some e → H e
theorem ag_blk {Y : Yd} {H : Nat → Prop} {D D' : Dy} (h : Ag Y H D D') {e : Nat} (he : e < dn Y) (hH : H e) : blkD Y D e = blkD Y D' e := blkN_cong fun j _ hj => h.1 j (by omega) e he hH
theorem ag_what {Y : Yd} {H : Nat → Prop} {D D' : Dy} (h : Ag Y H D D') (T : Nat → Bool) {e : Nat} (he : e < dn Y) (hH : H e) : whatD Y T D e = whatD Y T D' e := by
  unfold whatD
  by_cases h3 : dg Y e = 3
  · rw [h.2 e he hH h3]
  · rw [if_neg (show ¬ (dg Y e = 3 ∧ D.2 e = true) from fun z => h3 z.1), if_neg (show ¬ (dg Y e = 3 ∧ D'.2 e = true) from fun z => h3 z.1)]
def chS (s : Option Nat) (a : PR) (f : Nat → PR) : PR := match s with
  | none => a
  | some j => f j
def MvP (Y : Yd) (H : Nat → Prop) (D : Dy) (m : Nat → Option Nat) (f : Nat → Bool) : Prop := (∀ j x, m j = some x → j < db Y ∧ D.1 j < dn Y ∧ H (D.1 j) ∧ (x < dn Y ∧ H x ∨ 36 ≤ x)) ∧ ∀ e, f e = true → H e
theorem sl_loc {Y : Yd} {T : Nat → Bool} {H : Nat → Prop} {d : Nat} (hcl : Cl Y d H) {D0 D0' : Dy} (hag : Ag Y H D0 D0') (k : Nat) : ∀ (n c : Nat) (tr : Nat → Bool), c < dn Y → H c → ∃ (x : Nat) (f : Nat → Bool) (s : Option Nat) (t : Nat → Bool) (h : Option (Nat × Nat)), (x < dn Y ∧ H x ∨ 36 ≤ x) ∧ (∀ e, f e = true → H e) ∧ (∀ j, s = some j → j < db Y ∧ D0.1 j = D0'.1 j ∧ D0.1 j < dn Y ∧ H (D0.1 j)) ∧ ∀ D, slD Y T D0 D k d n c tr = (s, ap (one k x) f D, t, h) ∧ slD Y T D0' D k d n c tr = (s, ap (one k x) f D, t, h) := by
  have nof : ∀ e, (fun _ : Nat => false) e = true → H e := fun e z => by cases z
  intro n
  induction n with
  | zero =>
    intro c tr hc hH
    exact ⟨c, fun _ => false, none, tr, none, .inl ⟨hc, hH⟩, nof, (fun j z => by cases z), fun D => by rw [← set_ap]; exact ⟨rfl, rfl⟩⟩
  | succ n ih =>
    intro c tr hc hH
    cases hn : nxt Y c d with
    | none =>
      refine ⟨c, fun _ => false, none, tr, none, .inl ⟨hc, hH⟩, nof, (fun j z => by cases z), fun D => ?_⟩
      rw [sl_wall hn, sl_wall hn, ← set_ap]
      exact ⟨rfl, rfl⟩
    | some e =>
      have he := (nxt_spec hc hn).1
      have hHe := hcl c e hc hH hn
      have hb2 := ag_blk hag he hHe
      have hw2 := ag_what hag T he hHe
      cases hb : blkD Y D0 e with
      | some j =>
        rw [hb] at hb2
        obtain ⟨j1, j2⟩ := blkD_lt hb
        refine ⟨c, fun _ => false, some j, tr, none, .inl ⟨hc, hH⟩, nof, (fun j' z => ?_), fun D => ?_⟩
        · cases z
          exact ⟨j1, by rw [j2, (blkD_lt hb2.symm).2], by omega, by rw [j2]; exact hHe⟩
        · rw [sl_str hn hb, sl_str hn hb2.symm, ← set_ap]
          exact ⟨rfl, rfl⟩
      | none =>
        rw [hb] at hb2
        have hb2' := hb2.symm
        by_cases w3 : whatD Y T D0 e = 3
        · refine ⟨36, fun i => i == e, none, adT tr e, none, .inr (Nat.le_refl _), (fun i z => ?_), (fun j z => by cases z), fun D => ?_⟩
          · rw [beq_iff_eq] at z; rw [z]; exact hHe
          · rw [sl_crk hn hb w3, sl_crk hn hb2' (by rw [← hw2]; exact w3), ← fil_ap]
            exact ⟨rfl, rfl⟩
        · by_cases w4 : 4 ≤ whatD Y T D0 e
          · refine ⟨37 + (whatD Y T D0 e - 4), fun _ => false, none, adT tr e, some (k, whatD Y T D0 e - 4), .inr (by omega), nof, (fun j z => by cases z), fun D => ?_⟩
            rw [sl_home hn hb w4, sl_home hn hb2' (by rw [← hw2]; exact w4), ← set_ap, ← hw2]
            exact ⟨rfl, rfl⟩
          · by_cases w2 : whatD Y T D0 e = 2 ∧ dk Y k < 2
            · refine ⟨e, fun _ => false, none, adT tr e, none, .inl ⟨he, hHe⟩, nof, (fun j z => by cases z), fun D => ?_⟩
              rw [sl_sand hn hb w2, sl_sand hn hb2' (by rw [← hw2]; exact w2), ← set_ap]
              exact ⟨rfl, rfl⟩
            · obtain ⟨x, f, s, t, h, q1, q2, q3, q4⟩ := ih e (adT tr e) he hHe
              refine ⟨x, f, s, t, h, q1, q2, q3, fun D => ?_⟩
              rw [sl_on hn hb w3 w4 w2, sl_on hn hb2' (by rw [← hw2]; exact w3) (by rw [← hw2]; exact w4) (by rw [← hw2]; exact w2)]
              exact q4 D
theorem ch_loc {Y : Yd} {T : Nat → Bool} {H : Nat → Prop} {d : Nat} (hcl : Cl Y d H) {D0 D0' : Dy} (hag : Ag Y H D0 D0') : ∀ (n k : Nat) (tr : Nat → Bool), k < db Y → D0.1 k = D0'.1 k → D0.1 k < dn Y → H (D0.1 k) → ∃ (m : Nat → Option Nat) (f : Nat → Bool) (t : Nat → Bool) (h : Option (Nat × Nat)), MvP Y H D0 m f ∧ ∀ D, chD Y T D0 d n k D tr = (ap m f D, t, h) ∧ chD Y T D0' d n k D tr = (ap m f D, t, h) := by
  intro n
  induction n with
  | zero =>
    intro k tr hk he hlt hH
    refine ⟨fun _ => none, fun _ => false, tr, none, ⟨(fun j x z => by cases z), (fun e z => by cases z)⟩, fun D => ?_⟩
    have hD : ap (fun _ => none) (fun _ => false) D = D := Prod.ext rfl (funext fun e => by show (false || D.2 e) = D.2 e; rw [Bool.false_or])
    rw [hD]
    exact ⟨rfl, rfl⟩
  | succ n ih =>
    intro k tr hk he hlt hH
    obtain ⟨x, f, s, t, h, q1, q2, q3, q4⟩ := sl_loc (T := T) hcl hag k 6 (D0.1 k) tr hlt hH
    have mv1 : MvP Y H D0 (one k x) f := by
      refine ⟨fun j x' z => ?_, q2⟩
      unfold one at z
      by_cases e : j = k
      · rw [if_pos e] at z; cases z; rw [e]; exact ⟨hk, hlt, hH, q1⟩
      · rw [if_neg e] at z; cases z
    have u1 : ∀ D, chD Y T D0 d (n + 1) k D tr = chS s (ap (one k x) f D, t, h) fun j => if 1 ≤ dk Y k then chD Y T D0 d n j (ap (one k x) f D) t else (ap (one k x) f D, t, h) := by
      intro D
      have := (q4 D).1
      simp only [chD, this]
      cases s <;> rfl
    have u2 : ∀ D, chD Y T D0' d (n + 1) k D tr = chS s (ap (one k x) f D, t, h) fun j => if 1 ≤ dk Y k then chD Y T D0' d n j (ap (one k x) f D) t else (ap (one k x) f D, t, h) := by
      intro D
      have := (q4 D).2
      rw [he] at this
      simp only [chD, this]
      cases s <;> rfl
    cases s with
    | none => exact ⟨one k x, f, t, h, mv1, fun D => ⟨u1 D, u2 D⟩⟩
    | some j =>
      obtain ⟨j1, j2, j3, j4⟩ := q3 j rfl
      by_cases q : 1 ≤ dk Y k
      · obtain ⟨m', f', t', h', r1, r2⟩ := ih j t j1 j2 j3 j4
        refine ⟨fun i => (m' i).or (one k x i), fun e => f' e || f e, t', h', ⟨fun i y z => ?_, fun e z => ?_⟩, fun D => ⟨?_, ?_⟩⟩
        · change (m' i).or (one k x i) = some y at z
          cases hm : m' i with
          | some y' => rw [hm] at z; cases z; exact r1.1 i y hm
          | none => rw [hm] at z; exact mv1.1 i y z
        · rw [Bool.or_eq_true] at z
          rcases z with z | z
          · exact r1.2 e z
          · exact q2 e z
        · rw [u1 D]
          show (if 1 ≤ dk Y k then _ else _) = _
          rw [if_pos q, (r2 _).1, ap_ap]
        · rw [u2 D]
          show (if 1 ≤ dk Y k then _ else _) = _
          rw [if_pos q, (r2 _).2, ap_ap]
      · refine ⟨one k x, f, t, h, mv1, fun D => ⟨?_, ?_⟩⟩
        · rw [u1 D]
          show (if 1 ≤ dk Y k then _ else _) = _
          rw [if_neg q]
        · rw [u2 D]
          show (if 1 ≤ dk Y k then _ else _) = _
          rw [if_neg q]
theorem pu_loc {Y : Yd} {T : Nat → Bool} {H : Nat → Prop} {k d : Nat} (hcl : Cl Y d H) {D D' : Dy} (hag : Ag Y H D D') (hk : k < db Y) (h36 : dn Y ≤ 36) (he : D.1 k = D'.1 k) (hlt : D.1 k < dn Y) (hH : H (D.1 k)) : ∃ (m : Nat → Option Nat) (f : Nat → Bool) (t : Nat → Bool) (h : Option (Nat × Nat)), MvP Y H D m f ∧ pushD Y T D k d = (ap m f D, t, h) ∧ pushD Y T D' k d = (ap m f D', t, h) := by
  obtain ⟨m, f, t, h, q1, q2⟩ := ch_loc (T := T) hcl hag 6 k (fun _ => false) hk he hlt hH
  refine ⟨m, f, t, h, q1, ?_, ?_⟩
  · unfold pushD
    rw [if_pos (by omega)]
    exact (q2 D).1
  · unfold pushD
    rw [if_pos (by omega)]
    exact (q2 D').2
theorem ag_rfl {Y : Yd} {H : Nat → Prop} {D : Dy} : Ag Y H D D := ⟨fun _ _ _ _ _ => Iff.rfl, fun _ _ _ _ => rfl⟩
/-- what is changed elsewhere isn't seen -/
theorem ag_mv {Y : Yd} (h36 : dn Y ≤ 36) {H H' : Nat → Prop} {D : Dy} {m : Nat → Option Nat} {f : Nat → Bool} (hd : ∀ e, e < dn Y → H e → H' e → False) (hm : MvP Y H' D m f) : Ag Y H D (ap m f D) := by
  refine ⟨fun j hj e he hH => ?_, fun e he hH _ => ?_⟩
  · show D.1 j = e ↔ (m j).getD (D.1 j) = e
    cases hmj : m j with
    | none => exact Iff.rfl
    | some x =>
      obtain ⟨_, q2, q3, q4⟩ := hm.1 j x hmj
      show D.1 j = e ↔ x = e
      constructor
      · intro z; rw [z] at q3; exact (hd e he hH q3).elim
      · intro z
        rcases q4 with q4 | q4
        · rw [z] at q4; exact (hd e he hH q4.2).elim
        · omega
  · show D.2 e = (f e || D.2 e)
    cases hf : f e
    · rw [Bool.false_or]
    · exact (hd e he hH (hm.2 e hf)).elim
/-- pushes whose cells are apart may change places -/
theorem pu_comm {Y : Yd} {T : Nat → Bool} (h36 : dn Y ≤ 36) {H H' : Nat → Prop} {k d j e : Nat} (hcl : Cl Y d H) (hcl' : Cl Y e H') (hap : ∀ c, c < dn Y → H c → H' c → False) {D : Dy} (hk : k < db Y) (hj : j < db Y) (hlk : D.1 k < dn Y) (hlj : D.1 j < dn Y) (hHk : H (D.1 k)) (hHj : H' (D.1 j)) : (pushD Y T (pushD Y T D k d).1 j e).2 = (pushD Y T D j e).2 ∧ (pushD Y T (pushD Y T D j e).1 k d).2 = (pushD Y T D k d).2 ∧ (pushD Y T (pushD Y T D k d).1 j e).1 = (pushD Y T (pushD Y T D j e).1 k d).1 := by
  obtain ⟨m0, f0, t0, h0, a1, a2, a3⟩ := pu_loc (T := T) hcl' (ag_rfl (D := D)) hj h36 rfl hlj hHj
  have ag1 : Ag Y H D (ap m0 f0 D) := ag_mv h36 hap a1
  have ek : D.1 k = (ap m0 f0 D).1 k := ((ag1.1 k hk (D.1 k) hlk hHk).mp rfl).symm
  obtain ⟨m, f, t, h, b1, b2, b3⟩ := pu_loc (T := T) hcl ag1 hk h36 ek hlk hHk
  have ag2 : Ag Y H' D (ap m f D) := ag_mv h36 (fun c hc z1 z2 => hap c hc z2 z1) b1
  have ej : D.1 j = (ap m f D).1 j := ((ag2.1 j hj (D.1 j) hlj hHj).mp rfl).symm
  obtain ⟨m', f', t', h', c1, c2, c3⟩ := pu_loc (T := T) hcl' ag2 hj h36 ej hlj hHj
  have hD2 : ap m0 f0 D = ap m' f' D := by rw [a2] at c2; exact congrArg Prod.fst c2
  rw [hD2] at b3
  refine ⟨?_, ?_, ?_⟩
  · rw [b2]; show (pushD Y T (ap m f D) j e).2 = _; rw [c3, c2]
  · rw [c2]; show (pushD Y T (ap m' f' D) k d).2 = _; rw [b3, b2]
  · rw [b2, c2]
    show (pushD Y T (ap m f D) j e).1 = (pushD Y T (ap m' f' D) k d).1
    rw [c3, b3]
    show ap m' f' (ap m f D) = ap m f (ap m' f' D)
    rw [ap_ap, ap_ap]
    refine Prod.ext ?_ ?_
    · funext i
      show ((m' i).or (m i)).getD (D.1 i) = ((m i).or (m' i)).getD (D.1 i)
      cases hm : m i with
      | none => cases m' i <;> rfl
      | some x =>
        cases hm' : m' i with
        | none => rfl
        | some x' =>
          obtain ⟨_, q2, q3, _⟩ := b1.1 i x hm
          obtain ⟨_, _, r3, _⟩ := c1.1 i x' hm'
          exact (hap _ q2 q3 r3).elim
    · funext c
      show (f' c || f c || D.2 c) = (f c || f' c || D.2 c)
      rw [Bool.or_comm (f' c)]
/-- like yards, like pushes -/
theorem pu_cong {Y : Yd} (hY : WFY Y) {T : Nat → Bool} {D D' : Dy} (hD : WFD Y D) (h : EqD Y D D') {k d : Nat} (hk : k < db Y) : (pushD Y T D k d).2 = (pushD Y T D' k d).2 ∧ EqD Y (pushD Y T D k d).1 (pushD Y T D' k d).1 := by
  have h36 := dn_le hY
  have hag : Ag Y (fun _ => True) D D' := ⟨fun j hj e _ _ => by rw [h.1 j hj], fun e he _ h3 => h.2 e he h3⟩
  by_cases hl : D.1 k < 36
  · have hlt : D.1 k < dn Y := by rcases hD k hk with z | z | z | z <;> omega
    obtain ⟨m, f, t, hh, a1, a2, a3⟩ := pu_loc (T := T) (d := d) (fun _ _ _ _ _ => trivial) hag hk h36 (h.1 k hk) hlt trivial
    rw [a2, a3]
    refine ⟨rfl, fun j hj => ?_, fun c hc h3 => ?_⟩
    · show (m j).getD (D.1 j) = (m j).getD (D'.1 j)
      rw [h.1 j hj]
    · show (f c || D.2 c) = (f c || D'.2 c)
      rw [h.2 c hc h3]
  · have hl' : ¬ D'.1 k < 36 := by rw [← h.1 k hk]; exact hl
    unfold pushD
    rw [if_neg hl, if_neg hl']
    exact ⟨rfl, h⟩
/-- who is away stays away -/
theorem pu_gone {Y : Yd} (hY : WFY Y) {T : Nat → Bool} {D : Dy} (hD : WFD Y D) {k d j : Nat} (hk : k < db Y) (hj : 36 ≤ D.1 j) : 36 ≤ (pushD Y T D k d).1.1 j := by
  have h36 := dn_le hY
  by_cases hl : D.1 k < 36
  · have hlt : D.1 k < dn Y := by rcases hD k hk with z | z | z | z <;> omega
    obtain ⟨m, f, t, hh, a1, a2, a3⟩ := pu_loc (T := T) (d := d) (H := fun _ => True) (fun _ _ _ _ _ => trivial) (ag_rfl (D := D)) hk h36 rfl hlt trivial
    rw [a2]
    show 36 ≤ (m j).getD (D.1 j)
    cases hm : m j with
    | none => exact hj
    | some x => have := (a1.1 j x hm).2.1; omega
  · unfold pushD
    rw [if_neg hl]
    exact hj

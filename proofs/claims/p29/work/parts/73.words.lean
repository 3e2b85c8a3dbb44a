/-! ===== rows of pushes, their order, how many unlike ones are short ===== -/
/-- a row, the last push first -/
def stW (Y : Yd) (D : Dy) : List Nat → Dy
  | [] => D
  | p :: w => (pp Y T0 (stW Y D w) p).1
def ndW (Y : Yd) (g : Nat) (D : Dy) : List Nat → Prop
  | [] => True
  | p :: w => ndW Y g D w ∧ p < 4 * db Y ∧ gsF Y (stW Y D w) p = true ∧ hgt (pp Y T0 (stW Y D w) p) ≠ some g
def hiW (Y : Yd) (g : Nat) (D : Dy) : List Nat → Prop
  | [] => False
  | p :: w => ndW Y g D w ∧ p < 4 * db Y ∧ gsF Y (stW Y D w) p = true ∧ hgt (pp Y T0 (stW Y D w) p) = some g
def keyW (B : Nat) : List Nat → Nat
  | [] => 0
  | p :: w => B * keyW B w + p + 1
def offW (B : Nat) : Nat → Nat
  | 0 => 0
  | n + 1 => B * offW B n + 1
theorem st_wf {Y : Yd} (hY : WFY Y) {g : Nat} {D : Dy} (hW : WFD Y D) : ∀ w, ndW Y g D w → WFD Y (stW Y D w) := by
  intro w
  induction w with
  | nil => intro _; exact hW
  | cons p w ih =>
    intro h
    exact (pu_ok hY (T := T0) (ih h.1) (k := p / 4) (d := p % 4) (by have := h.2.1; omega)).1
theorem nd_lt {Y : Yd} {g : Nat} {D : Dy} : ∀ w, ndW Y g D w → ∀ x ∈ w, x < 4 * db Y := by
  intro w
  induction w with
  | nil => intro _ x hx; cases hx
  | cons p w ih =>
    intro h x hx
    rcases List.mem_cons.mp hx with z | z
    · rw [z]; exact h.2.1
    · exact ih h.1 x z
theorem hi_lt {Y : Yd} {g : Nat} {D : Dy} : ∀ w, hiW Y g D w → ∀ x ∈ w, x < 4 * db Y := by
  intro w h x hx
  cases w with
  | nil => cases hx
  | cons p w =>
    rcases List.mem_cons.mp hx with z | z
    · rw [z]; exact h.2.1
    · exact nd_lt w h.1 x z
theorem bq_inj {B a b p q : Nat} (hp : p < B) (hq : q < B) (h : B * a + q = B * b + p) : a = b ∧ q = p := by
  have h1 := congrArg (· % B) h
  have h2 := congrArg (· / B) h
  simp only [Nat.mul_add_mod, Nat.mod_eq_of_lt hp, Nat.mod_eq_of_lt hq] at h1
  simp only [Nat.mul_add_div (show B > 0 by omega), Nat.div_eq_of_lt hp, Nat.div_eq_of_lt hq, Nat.add_zero] at h2
  exact ⟨h2, h1⟩
theorem key_inj {B : Nat} : ∀ v w : List Nat, (∀ x ∈ v, x < B) → (∀ x ∈ w, x < B) → keyW B v = keyW B w → v = w := by
  intro v
  induction v with
  | nil =>
    intro w _ _ h
    cases w with
    | nil => rfl
    | cons p w => change 0 = B * keyW B w + p + 1 at h; omega
  | cons q v ih =>
    intro w hv hw h
    cases w with
    | nil => change B * keyW B v + q + 1 = 0 at h; omega
    | cons p w =>
      change B * keyW B v + q + 1 = B * keyW B w + p + 1 at h
      obtain ⟨e1, e2⟩ := bq_inj (hw p (List.mem_cons_self ..)) (hv q (List.mem_cons_self ..)) (Nat.succ.inj h)
      rw [e2, ih w (fun x hx => hv x (List.mem_cons_of_mem _ hx)) (fun x hx => hw x (List.mem_cons_of_mem _ hx)) e1]
theorem key_len {B : Nat} : ∀ w : List Nat, (∀ x ∈ w, x < B) → offW B w.length ≤ keyW B w ∧ keyW B w < offW B (w.length + 1) := by
  intro w
  induction w with
  | nil => intro _; exact ⟨Nat.le_refl _, by show 0 < B * 0 + 1; omega⟩
  | cons p w ih =>
    intro h
    obtain ⟨a, b⟩ := ih fun x hx => h x (List.mem_cons_of_mem _ hx)
    have hp := h p (List.mem_cons_self ..)
    have m1 := Nat.mul_le_mul_left B a
    have m2 : B * (keyW B w + 1) ≤ B * offW B (w.length + 1) := Nat.mul_le_mul_left B b
    rw [Nat.mul_succ] at m2
    rw [List.length_cons]
    constructor
    · show B * offW B w.length + 1 ≤ B * keyW B w + p + 1
      omega
    · show B * keyW B w + p + 1 < B * offW B (w.length + 1) + 1
      omega
theorem off_le {B : Nat} {a b : Nat} (h : a ≤ b) : offW B a ≤ offW B b := by
  have s : ∀ n, offW B n ≤ offW B (n + 1) := by
    intro n
    induction n with
    | zero => exact Nat.zero_le _
    | succ n ih =>
      show B * offW B n + 1 ≤ B * offW B (n + 1) + 1
      have := Nat.mul_le_mul_left B ih
      omega
  induction h with
  | refl => exact Nat.le_refl _
  | step _ ih => exact Nat.le_trans ih (s _)
theorem len_key {B : Nat} {v w : List Nat} (hv : ∀ x ∈ v, x < B) (hw : ∀ x ∈ w, x < B) (h : keyW B v ≤ keyW B w) : v.length ≤ w.length := by
  rcases Nat.lt_or_ge w.length v.length with z | z
  · have a := (key_len v hv).1
    have b := (key_len w hw).2
    have c := off_le (B := B) (show w.length + 1 ≤ v.length from z)
    omega
  · exact z
theorem eqW_r {Y : Yd} {D : Dy} : EqD Y D D := ⟨fun _ _ => rfl, fun _ _ _ => rfl⟩
theorem eqW_s {Y : Yd} {D E : Dy} (h : EqD Y D E) : EqD Y E D := ⟨fun k hk => (h.1 k hk).symm, fun c hc h3 => (h.2 c hc h3).symm⟩
theorem eqW_t {Y : Yd} {D E F : Dy} (h : EqD Y D E) (h' : EqD Y E F) : EqD Y D F := ⟨fun k hk => (h.1 k hk).trans (h'.1 k hk), fun c hc h3 => (h.2 c hc h3).trans (h'.2 c hc h3)⟩
theorem gs_2 {Y : Yd} {D E : Dy} {p q : Nat} (h : (pp Y T0 D p).2 = (pp Y T0 E q).2) : gsF Y D p = gsF Y E q ∧ hgt (pp Y T0 D p) = hgt (pp Y T0 E q) := by
  unfold gsF hgt
  rw [h]
  exact ⟨rfl, rfl⟩
theorem step_cong {Y : Yd} (hY : WFY Y) {D E : Dy} (hW : WFD Y D) (h : EqD Y D E) {p : Nat} (hp : p < 4 * db Y) : gsF Y D p = gsF Y E p ∧ hgt (pp Y T0 D p) = hgt (pp Y T0 E p) ∧ EqD Y (pp Y T0 D p).1 (pp Y T0 E p).1 := by
  obtain ⟨a, b⟩ := pu_cong hY (T := T0) hW h (k := p / 4) (d := p % 4) (by omega)
  exact ⟨(gs_2 a).1, (gs_2 a).2, b⟩
theorem gs_ly {Y : Yd} {D : Dy} {p : Nat} (h : gsF Y D p = true) : D.1 (p / 4) < 36 := by
  by_cases q : D.1 (p / 4) < 36
  · exact q
  · unfold gsF pp pushD at h
    rw [if_neg q] at h
    unfold anyT at h
    rw [List.any_eq_true] at h
    obtain ⟨x, _, hx⟩ := h
    cases hx
/-- of three pushes, none of which may change places with the one ahead -/
theorem g3_of {Y : Yd} (hY : WFY Y) (h3 : db Y = 3) {g : Nat} {D : Dy} (hW : WFD Y D) {p q r : Nat} (hn : ndW Y g D [r, q, p]) (hf : ∀ v, ndW Y g D v → keyW 12 v < keyW 12 [r, q, p] → ¬ EqD Y (stW Y D v) (stW Y D [r, q, p])) : g3 Y D p q r = true := by
  obtain ⟨⟨⟨_, p1, p2, p3⟩, q1, q2, q3⟩, r1, r2, r3⟩ := hn
  change gsF Y D p = true at p2
  change hgt (pp Y T0 D p) ≠ some g at p3
  change gsF Y (pp Y T0 D p).1 q = true at q2
  change hgt (pp Y T0 (pp Y T0 D p).1 q) ≠ some g at q3
  change gsF Y (pp Y T0 (pp Y T0 D p).1 q).1 r = true at r2
  change hgt (pp Y T0 (pp Y T0 (pp Y T0 D p).1 q).1 r) ≠ some g at r3
  have hW1 : WFD Y (pp Y T0 D p).1 := (pu_ok hY (T := T0) hW (k := p / 4) (d := p % 4) (by omega)).1
  have lp := gs_ly p2
  have lq := gs_ly q2
  have lr2 := gs_ly r2
  have lr : (pp Y T0 D p).1.1 (r / 4) < 36 := by
    rcases Nat.lt_or_ge ((pp Y T0 D p).1.1 (r / 4)) 36 with z | z
    · exact z
    · exact absurd lr2 (Nat.not_lt.mpr (pu_gone hY (T := T0) hW1 (k := q / 4) (d := q % 4) (j := r / 4) (by omega) z))
  have lq0 : D.1 (q / 4) < 36 := by
    rcases Nat.lt_or_ge (D.1 (q / 4)) 36 with z | z
    · exact z
    · exact absurd lq (Nat.not_lt.mpr (pu_gone hY (T := T0) hW (k := p / 4) (d := p % 4) (j := q / 4) (by omega) z))
  have a : cmD Y D p q = false := by
    cases hc : cmD Y D p q
    · rfl
    · obtain ⟨z1, z2, z3, z4⟩ := cm_comm hY hW p1 q1 lp lq0 hc
      refine absurd (eqW_r (Y := Y)) ((show stW Y D [r, p, q] = stW Y D [r, q, p] from by
        show (pp Y T0 (pp Y T0 (pp Y T0 D q).1 p).1 r).1 = (pp Y T0 (pp Y T0 (pp Y T0 D p).1 q).1 r).1
        rw [z3]) ▸ hf [r, p, q] ⟨⟨⟨trivial, q1, ?_, ?_⟩, p1, ?_, ?_⟩, r1, ?_, ?_⟩ ?_)
      · show gsF Y D q = true
        rw [← (gs_2 z1).1]; exact q2
      · show hgt (pp Y T0 D q) ≠ some g
        rw [← (gs_2 z1).2]; exact q3
      · show gsF Y (pp Y T0 D q).1 p = true
        rw [(gs_2 z2).1]; exact p2
      · show hgt (pp Y T0 (pp Y T0 D q).1 p) ≠ some g
        rw [(gs_2 z2).2]; exact p3
      · show gsF Y (pp Y T0 (pp Y T0 D q).1 p).1 r = true
        rw [← z3]; exact r2
      · show hgt (pp Y T0 (pp Y T0 (pp Y T0 D q).1 p).1 r) ≠ some g
        rw [← z3]; exact r3
      · show 12 * (12 * (12 * 0 + q + 1) + p + 1) + r + 1 < 12 * (12 * (12 * 0 + p + 1) + q + 1) + r + 1
        omega
  have b : cmD Y (pp Y T0 D p).1 q r = false := by
    cases hc : cmD Y (pp Y T0 D p).1 q r
    · rfl
    · obtain ⟨z1, z2, z3, z4⟩ := cm_comm hY hW1 q1 r1 lq lr hc
      refine absurd (eqW_r (Y := Y)) ((show stW Y D [q, r, p] = stW Y D [r, q, p] from z3.symm) ▸ hf [q, r, p] ⟨⟨⟨trivial, p1, p2, p3⟩, r1, ?_, ?_⟩, q1, ?_, ?_⟩ ?_)
      · show gsF Y (pp Y T0 D p).1 r = true
        rw [← (gs_2 z1).1]; exact r2
      · show hgt (pp Y T0 (pp Y T0 D p).1 r) ≠ some g
        rw [← (gs_2 z1).2]; exact r3
      · show gsF Y (pp Y T0 (pp Y T0 D p).1 r).1 q = true
        rw [(gs_2 z2).1]; exact q2
      · show hgt (pp Y T0 (pp Y T0 (pp Y T0 D p).1 r).1 q) ≠ some g
        rw [(gs_2 z2).2]; exact q3
      · show 12 * (12 * (12 * 0 + p + 1) + r + 1) + q + 1 < 12 * (12 * (12 * 0 + p + 1) + q + 1) + r + 1
        omega
  unfold g3 lyB
  rw [a, b, decide_eq_true lq, decide_eq_true lr]
  rfl
theorem off_4 {B : Nat} (h : B ≤ 8) : offW B 4 ≤ 1500 := (by decide : ∀ B, B ≤ 8 → offW B 4 ≤ 1500) B h
theorem inc_of {f : Nat → Nat} {N : Nat} (h : ∀ j, j < N → f j < f (j + 1)) : ∀ k, k ≤ N → ∀ j, j < k → f j < f k := by
  intro k
  induction k with
  | zero => intro _ j hj; omega
  | succ k ih =>
    intro hk j hj
    have h1 := h k (by omega)
    rcases Nat.lt_or_ge j k with z | z
    · have := ih (by omega) j z; omega
    · have : j = k := by omega
      rw [this]; exact h1
theorem inc_id {f : Nat → Nat} {N : Nat} (h : ∀ j, j < N → f j < f (j + 1)) : ∀ j, j ≤ N → j ≤ f j := by
  intro j
  induction j with
  | zero => intro _; omega
  | succ j ih => intro hj; have := ih (by omega); have := h j (by omega); omega
theorem sm_one : ∀ n, sm (fun _ => 1) n = n := by
  intro n
  induction n with
  | zero => rfl
  | succ n ih => show sm (fun _ => 1) n + 1 = n + 1; rw [ih]
theorem sm_mono (f : Nat → Nat) {a b : Nat} (h : a ≤ b) : sm f a ≤ sm f b := by
  induction h with
  | refl => exact Nat.le_refl _
  | step _ ih => exact Nat.le_trans ih (Nat.le_add_right _ _)
/-- so many first rows of unlike yards are long -/
theorem cnt_len {Y : Yd} (hY : WFY Y) (h3 : db Y ≤ 3) {g : Nat} {D : Dy} (hW : WFD Y D) (hD : DisD Y D) {W : Nat → List Nat} (h1 : ∀ j, j ≤ 1500 → ndW Y g D (W j)) (h2 : ∀ j, j < 1500 → keyW (4 * db Y) (W j) < keyW (4 * db Y) (W (j + 1))) (hf : ∀ j, j ≤ 1500 → ∀ v, ndW Y g D v → keyW (4 * db Y) v < keyW (4 * db Y) (W j) → ¬ EqD Y (stW Y D v) (stW Y D (W j))) : 3 < (W 1500).length := by
  rcases Nat.lt_or_ge 3 (W 1500).length with z | z
  · exact z
  exfalso
  have hlt : ∀ j, j ≤ 1500 → ∀ x ∈ W j, x < 4 * db Y := fun j hj => nd_lt _ (h1 j hj)
  have ht := (key_len (W 1500) (hlt 1500 (Nat.le_refl _))).2
  have h4 := off_le (B := 4 * db Y) (show (W 1500).length + 1 ≤ 4 by omega)
  have hid := inc_id h2 1500 (Nat.le_refl _)
  by_cases hb : db Y ≤ 2
  · have := off_4 (B := 4 * db Y) (by omega)
    omega
  · have hb3 : db Y = 3 := by omega
    rw [hb3] at h2 hf ht h4 hlt
    have o4 : offW (4 * 3) 4 = 1885 := rfl
    have o3 : offW 12 3 = 157 := rfl
    have all : ∀ j, j ≤ 1500 → (W j).length ≤ 3 := fun j hj => by
      refine Nat.le_trans (len_key (hlt j hj) (hlt 1500 (Nat.le_refl _)) ?_) z
      rcases Nat.lt_or_ge j 1500 with q | q
      · exact Nat.le_of_lt (inc_of h2 1500 (Nat.le_refl _) j q)
      · rw [show j = 1500 by omega]; exact Nat.le_refl _
    let f : Nat → Bool := fun k => decide (k < 157) || g3 Y D ((k - 157) / 144) ((k - 157) / 12 % 12) ((k - 157) % 12)
    have hfw : ∀ j, j ≤ 1500 → f (keyW 12 (W j)) = true := by
      intro j hj
      have hl := all j hj
      have hn := h1 j hj
      have hff := hf j hj
      have hx := hlt j hj
      show (decide (keyW 12 (W j) < 157) || _) = true
      generalize W j = w at hl hn hff hx ⊢
      by_cases h2' : w.length ≤ 2
      · have := (key_len (B := 12) w hx).2
        have o := off_le (B := 12) (show w.length + 1 ≤ 3 by omega)
        rw [decide_eq_true (show keyW 12 w < 157 by omega), Bool.true_or]
      · match w, h2', hl, hn, hff, hx with
        | [r, q, p], _, _, hn, hff, hx =>
          have hp := hx p (by simp)
          have hq := hx q (by simp)
          have hr := hx r (by simp)
          have ek : keyW 12 [r, q, p] - 157 = 144 * p + 12 * q + r := by
            show 12 * (12 * (12 * 0 + p + 1) + q + 1) + r + 1 - 157 = _
            omega
          rw [ek, show (144 * p + 12 * q + r) / 144 = p by omega, show (144 * p + 12 * q + r) / 12 % 12 = q by omega, show (144 * p + 12 * q + r) % 12 = r by omega, g3_of hY hb3 hW hn hff, Bool.or_true]
        | [], h, _, _, _, _ => exact absurd (Nat.zero_le _) h
        | [_], h, _, _, _, _ => exact absurd (by simp) h
        | [_, _], h, _, _, _, _ => exact absurd (by simp) h
        | _ :: _ :: _ :: _ :: _, _, h, _, _, _ => simp at h
    have c1 := sm_inc (f := f) (h := fun j => keyW 12 (W j)) (N := 1500) h2 hfw 1500 (Nat.le_refl _)
    have c2 : sm (fun k => (f k).toNat) (keyW 12 (W 1500) + 1) ≤ sm (fun k => (f k).toNat) (157 + 12 * 144) := sm_mono _ (by
      change keyW 12 (W 1500) < _ at ht
      omega)
    have c3 : sm (fun k => (f k).toNat) 157 ≤ sm (fun _ => 1) 157 := sm_le fun i _ => tn_le _
    have c4 : sm (fun _ => 1) 157 = 157 := sm_one 157
    have c5 : sm (fun i => (f (157 + i)).toNat) (12 * 144) ≤ sm (g3S Y D) 12 := by
      rw [show 12 * 144 = 144 * 12 from rfl, sm_rows]
      refine sm_le fun p hp => ?_
      rw [show (144 : Nat) = 12 * 12 from rfl, sm_rows]
      refine sm_le fun q hq => sm_le fun r hr => ?_
      show (f (157 + (12 * 12 * p + (12 * q + r)))).toNat ≤ _
      have e : f (157 + (12 * 12 * p + (12 * q + r))) = g3 Y D p q r := by
        show (decide (157 + (12 * 12 * p + (12 * q + r)) < 157) || _) = _
        rw [decide_eq_false (by omega), Bool.false_or, show 157 + (12 * 12 * p + (12 * q + r)) - 157 = 144 * p + 12 * q + r by omega, show (144 * p + 12 * q + r) / 144 = p by omega, show (144 * p + 12 * q + r) / 12 % 12 = q by omega, show (144 * p + 12 * q + r) % 12 = r by omega]
      rw [e]
      exact Nat.le_refl _
    rw [sm_split _ 157 (12 * 144)] at c2
    have c6 := g3_tot hY hb3 hW hD
    change 1500 + 1 ≤ sm (fun k => (f k).toNat) (keyW 12 (W 1500) + 1) at c1
    omega

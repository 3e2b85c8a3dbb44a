/-! ===== how many unlike yards within three pushes ===== -/
def sm (f : Nat → Nat) : Nat → Nat
  | 0 => 0
  | n + 1 => sm f n + f n
theorem sm_le {f h : Nat → Nat} : ∀ {n : Nat}, (∀ i, i < n → f i ≤ h i) → sm f n ≤ sm h n := by
  intro n
  induction n with
  | zero => intro _; exact Nat.le_refl _
  | succ n ih => intro hh; exact Nat.add_le_add (ih fun i hi => hh i (by omega)) (hh n (by omega))
theorem sm_add (f h : Nat → Nat) (n : Nat) : sm (fun i => f i + h i) n = sm f n + sm h n := by
  induction n with
  | zero => rfl
  | succ n ih =>
    show sm (fun i => f i + h i) n + (f n + h n) = (sm f n + f n) + (sm h n + h n)
    rw [ih]; omega
theorem sm_mul (c : Nat) (f : Nat → Nat) (n : Nat) : sm (fun i => c * f i) n = c * sm f n := by
  induction n with
  | zero => rfl
  | succ n ih =>
    show sm (fun i => c * f i) n + c * f n = c * (sm f n + f n)
    rw [ih, Nat.mul_add]
theorem sm_split (f : Nat → Nat) (a b : Nat) : sm f (a + b) = sm f a + sm (fun i => f (a + i)) b := by
  induction b with
  | zero => rfl
  | succ b ih =>
    show sm f (a + b) + f (a + b) = sm f a + (sm (fun i => f (a + i)) b + f (a + b))
    rw [ih]; omega
theorem sm_rows (f : Nat → Nat) (B n : Nat) : sm f (B * n) = sm (fun i => sm (fun j => f (B * i + j)) B) n := by
  induction n with
  | zero => rfl
  | succ n ih =>
    rw [Nat.mul_succ, sm_split, ih]
    rfl
/-- rising places where f holds: no more than there are -/
theorem sm_inc {f : Nat → Bool} {h : Nat → Nat} {N : Nat} (hi : ∀ j, j < N → h j < h (j + 1)) (hf : ∀ j, j ≤ N → f (h j) = true) : ∀ j, j ≤ N → j + 1 ≤ sm (fun k => (f k).toNat) (h j + 1) := by
  have mono : ∀ a b, sm (fun k => (f k).toNat) a ≤ sm (fun k => (f k).toNat) (a + b) := fun a b => by rw [sm_split]; omega
  have top : ∀ j, j ≤ N → sm (fun k => (f k).toNat) (h j + 1) = sm (fun k => (f k).toNat) (h j) + 1 := fun j hj => by
    show sm (fun k => (f k).toNat) (h j) + (f (h j)).toNat = _
    rw [hf j hj]; rfl
  intro j
  induction j with
  | zero => intro hj; rw [top 0 hj]; omega
  | succ j ih =>
    intro hj
    have h1 := ih (by omega)
    have h2 := hi j (by omega)
    rw [top (j + 1) hj]
    have h3 := mono (h j + 1) (h (j + 1) - (h j + 1))
    rw [show h j + 1 + (h (j + 1) - (h j + 1)) = h (j + 1) by omega] at h3
    omega
/-- two pushes that may change places; the later block first -/
def cmD (Y : Yd) (D : Dy) (q r : Nat) : Bool := decide (r / 4 < q / 4) && dj (q % 4) (r % 4) (cpN (D.1 (q / 4) % dw Y) (D.1 (r / 4) % dw Y)) (cpN (D.1 (q / 4) / dw Y) (D.1 (r / 4) / dw Y))
theorem lie_dn {Y : Yd} (hY : WFY Y) {D : Dy} (hW : WFD Y D) {k : Nat} (hk : k < db Y) (hl : D.1 k < 36) : D.1 k < dn Y := by
  have := dn_le hY
  rcases hW k hk with z | z | z | z <;> omega
theorem cm_comm {Y : Yd} (hY : WFY Y) {D : Dy} (hW : WFD Y D) {q r : Nat} (hq : q < 4 * db Y) (hr : r < 4 * db Y) (lq : D.1 (q / 4) < 36) (lr : D.1 (r / 4) < 36) (h : cmD Y D q r = true) : (pp Y T0 (pp Y T0 D q).1 r).2 = (pp Y T0 D r).2 ∧ (pp Y T0 (pp Y T0 D r).1 q).2 = (pp Y T0 D q).2 ∧ (pp Y T0 (pp Y T0 D q).1 r).1 = (pp Y T0 (pp Y T0 D r).1 q).1 ∧ r < q := by
  unfold cmD at h
  rw [Bool.and_eq_true, decide_eq_true_eq] at h
  have a := lie_dn hY hW (k := q / 4) (by omega) lq
  have b := lie_dn hY hW (k := r / 4) (by omega) lr
  obtain ⟨z1, z2, z3⟩ := pu_comm (Y := Y) (T := T0) (dn_le hY) (H := HL Y (D.1 (q / 4)) (q % 4)) (H' := HL Y (D.1 (r / 4)) (r % 4)) (k := q / 4) (d := q % 4) (j := r / 4) (e := r % 4) (hl_cl Y _ _) (hl_cl Y _ _) (fun c _ h1 h2 => hl_dj (by omega) (by omega) h.2 c h1 h2) (D := D) (by omega) (by omega) a b (hl_rfl Y _ _) (hl_rfl Y _ _)
  exact ⟨z1, z2, z3, by omega⟩
theorem cm_at (Y : Yd) (D : Dy) {k d j e : Nat} (hd : d < 4) (he : e < 4) (h : j < k) : cmD Y D (4 * k + d) (4 * j + e) = dj d e (cpN (D.1 k % dw Y) (D.1 j % dw Y)) (cpN (D.1 k / dw Y) (D.1 j / dw Y)) := by
  unfold cmD
  rw [show (4 * k + d) / 4 = k by omega, show (4 * j + e) / 4 = j by omega, show (4 * k + d) % 4 = d by omega, show (4 * j + e) % 4 = e by omega, decide_eq_true h, Bool.true_and]
def djS (ox oy : Nat) : Nat := sm (fun d => sm (fun e => (dj d e ox oy).toNat) 4) 4
theorem djS_9 : ∀ ox, ox < 3 → ∀ oy, oy < 3 → ¬ (ox = 1 ∧ oy = 1) → 9 ≤ djS ox oy := by decide
theorem djS_c {w a b : Nat} (h : a ≠ b) : 9 ≤ djS (cpN (a % w) (b % w)) (cpN (a / w) (b / w)) := by
  have hx := cpN_sp (a % w) (b % w)
  have hy := cpN_sp (a / w) (b / w)
  refine djS_9 _ (by omega) _ (by omega) fun z => h ?_
  have e1 : a % w = b % w := by omega
  have e2 : a / w = b / w := by omega
  rw [← Nat.div_add_mod a w, ← Nat.div_add_mod b w, e1, e2]
def cmS (Y : Yd) (D : Dy) (q : Nat) : Nat := sm (fun r => (cmD Y D q r).toNat) 12
theorem tn_le (b : Bool) : b.toNat ≤ 1 := by cases b <;> decide
theorem cmS_8 (Y : Yd) (D : Dy) {q : Nat} (hq : q < 12) : cmS Y D q ≤ 8 := by
  have : cmS Y D q ≤ sm (fun r => if r < 8 then 1 else 0) 12 := sm_le fun r hr => by
    by_cases h : r < 8
    · rw [if_pos h]; exact tn_le _
    · rw [if_neg h]
      unfold cmD
      rw [decide_eq_false (show ¬ r / 4 < q / 4 by omega), Bool.false_and]
      exact Nat.le_refl _
  exact this
theorem cmS_27 {Y : Yd} {D : Dy} (h : ∀ i j, i < 3 → j < 3 → i ≠ j → D.1 i ≠ D.1 j) : 27 ≤ sm (cmS Y D) 12 := by
  have h10 := djS_c (w := dw Y) (h 1 0 (by decide) (by decide) (by decide))
  have h20 := djS_c (w := dw Y) (h 2 0 (by decide) (by decide) (by decide))
  have h21 := djS_c (w := dw Y) (h 2 1 (by decide) (by decide) (by decide))
  have s0 : ∀ q, cmS Y D q = sm (fun e => (cmD Y D q (4 * 0 + e)).toNat) 4 + sm (fun e => (cmD Y D q (4 * 1 + e)).toNat) 4 + sm (fun e => (cmD Y D q (4 * 2 + e)).toNat) 4 := fun q => by
    unfold cmS
    rw [show (12 : Nat) = 4 * 3 from rfl, sm_rows]
    show (0 + _ + _ + _) = _
    rw [Nat.zero_add]
  have sq : sm (cmS Y D) 12 = sm (fun d => cmS Y D (4 * 0 + d)) 4 + sm (fun d => cmS Y D (4 * 1 + d)) 4 + sm (fun d => cmS Y D (4 * 2 + d)) 4 := by
    rw [show (12 : Nat) = 4 * 3 from rfl, sm_rows]
    show (0 + _ + _ + _) = _
    rw [Nat.zero_add]
  have pr : ∀ k j, j < k → sm (fun d => sm (fun e => (cmD Y D (4 * k + d) (4 * j + e)).toNat) 4) 4 = djS (cpN (D.1 k % dw Y) (D.1 j % dw Y)) (cpN (D.1 k / dw Y) (D.1 j / dw Y)) := by
    intro k j hjk
    have e : ∀ d, d < 4 → sm (fun e => (cmD Y D (4 * k + d) (4 * j + e)).toNat) 4 = sm (fun e => (dj d e (cpN (D.1 k % dw Y) (D.1 j % dw Y)) (cpN (D.1 k / dw Y) (D.1 j / dw Y))).toNat) 4 := fun d hd => Nat.le_antisymm (sm_le fun e he => by rw [cm_at Y D hd he hjk]; exact Nat.le_refl _) (sm_le fun e he => by rw [cm_at Y D hd he hjk]; exact Nat.le_refl _)
    exact Nat.le_antisymm (sm_le fun d hd => by rw [e d hd]; exact Nat.le_refl _) (sm_le fun d hd => by rw [e d hd]; exact Nat.le_refl _)
  have a1 : djS (cpN (D.1 1 % dw Y) (D.1 0 % dw Y)) (cpN (D.1 1 / dw Y) (D.1 0 / dw Y)) ≤ sm (fun d => cmS Y D (4 * 1 + d)) 4 := by
    rw [← pr 1 0 (by decide)]
    exact sm_le fun d _ => by rw [s0]; omega
  have a2 : djS (cpN (D.1 2 % dw Y) (D.1 0 % dw Y)) (cpN (D.1 2 / dw Y) (D.1 0 / dw Y)) + djS (cpN (D.1 2 % dw Y) (D.1 1 % dw Y)) (cpN (D.1 2 / dw Y) (D.1 1 / dw Y)) ≤ sm (fun d => cmS Y D (4 * 2 + d)) 4 := by
    rw [← pr 2 0 (by decide), ← pr 2 1 (by decide), ← sm_add]
    exact sm_le fun d _ => by rw [s0]; omega
  omega
def lyB (D : Dy) (j : Nat) : Bool := decide (D.1 j < 36)
def g3 (Y : Yd) (D : Dy) (p q r : Nat) : Bool := !cmD Y D p q && !cmD Y (pp Y T0 D p).1 q r && lyB (pp Y T0 D p).1 (q / 4) && lyB (pp Y T0 D p).1 (r / 4)
def g3S (Y : Yd) (D : Dy) (p : Nat) : Nat := sm (fun q => sm (fun r => (g3 Y D p q r).toNat) 12) 12
theorem two_64 : ∀ j, j < 3 → sm (fun q => sm (fun r => if q / 4 = j ∨ r / 4 = j then 0 else 1) 12) 12 = 64 := by decide
theorem g3_64 {Y : Yd} {D : Dy} {p j : Nat} (hj : j < 3) (h : ¬ (pp Y T0 D p).1.1 j < 36) : g3S Y D p ≤ 64 := by
  rw [← two_64 j hj]
  refine sm_le fun q _ => sm_le fun r _ => ?_
  by_cases e : q / 4 = j ∨ r / 4 = j
  · rw [if_pos e]
    have : g3 Y D p q r = false := by
      unfold g3 lyB
      rcases e with e | e
      · rw [e, decide_eq_false h, Bool.and_false, Bool.false_and]
      · rw [e, decide_eq_false h, Bool.and_false]
    rw [this]; exact Nat.le_refl _
  · rw [if_neg e]; exact tn_le _
theorem g3_all {Y : Yd} {D : Dy} {p : Nat} (h : ∀ i j, i < 3 → j < 3 → i ≠ j → (pp Y T0 D p).1.1 i ≠ (pp Y T0 D p).1.1 j) : g3S Y D p + 27 + 4 * cmS Y D p ≤ 144 := by
  have h27 := cmS_27 (Y := Y) h
  have pt : sm (fun q => (sm (fun r => (g3 Y D p q r).toNat) 12 + cmS Y (pp Y T0 D p).1 q) + 4 * (cmD Y D p q).toNat) 12 ≤ sm (fun _ => 12) 12 := sm_le fun q hq => by
    cases hc : cmD Y D p q
    · have : sm (fun r => (g3 Y D p q r).toNat) 12 + cmS Y (pp Y T0 D p).1 q ≤ sm (fun _ => 1) 12 := by
        unfold cmS
        rw [← sm_add]
        refine sm_le fun r _ => ?_
        unfold g3
        rw [hc]
        cases cmD Y (pp Y T0 D p).1 q r
        · exact Nat.le_trans (Nat.le_of_eq (Nat.add_zero _)) (tn_le _)
        · show (false && _ && _ : Bool).toNat + 1 ≤ 1
          rw [Bool.false_and, Bool.false_and]; exact Nat.le_refl _
      show _ + 4 * 0 ≤ 12
      exact this
    · have : sm (fun r => (g3 Y D p q r).toNat) 12 ≤ sm (fun _ => 0) 12 := sm_le fun r _ => by
        unfold g3
        rw [hc]
        show (false && _ && _ && _ : Bool).toNat ≤ 0
        rw [Bool.false_and, Bool.false_and, Bool.false_and]; exact Nat.le_refl _
      have h8 := cmS_8 Y (pp Y T0 D p).1 hq
      have z : sm (fun _ => 0) 12 = 0 := rfl
      show _ + 4 * 1 ≤ 12
      omega
  rw [sm_add, sm_add, sm_mul] at pt
  have z : sm (fun _ => 12) 12 = 144 := rfl
  unfold g3S
  change _ + 4 * cmS Y D p ≤ _ at pt
  change _ + sm (cmS Y (pp Y T0 D p).1) 12 + _ ≤ _ at pt
  omega
theorem g3_tot {Y : Yd} (hY : WFY Y) (h3 : db Y = 3) {D : Dy} (hW : WFD Y D) (hD : DisD Y D) : sm (g3S Y D) 12 ≤ 1343 := by
  by_cases hl : ∃ j, j < 3 ∧ ¬ D.1 j < 36
  · obtain ⟨j, hj, hj2⟩ := hl
    have : sm (g3S Y D) 12 ≤ sm (fun _ => 64) 12 := sm_le fun p hp => g3_64 hj (by
      have := pu_gone hY (T := T0) hW (k := p / 4) (d := p % 4) (j := j) (by omega) (by omega)
      exact Nat.not_lt.mpr this)
    have z : sm (fun _ => 64) 12 = 768 := rfl
    omega
  · have all : ∀ j, j < 3 → D.1 j < 36 := fun j hj => by
      by_cases q : D.1 j < 36
      · exact q
      · exact (hl ⟨j, hj, q⟩).elim
    have h27 := cmS_27 (Y := Y) (D := D) fun i j hi hj hij => hD i j (by omega) (by omega) hij (all i hi)
    have pt : sm (fun p => (g3S Y D p + 27) + 4 * cmS Y D p) 12 ≤ sm (fun _ => 144) 12 := sm_le fun p hp => by
      by_cases hp2 : ∃ j, j < 3 ∧ ¬ (pp Y T0 D p).1.1 j < 36
      · obtain ⟨j, hj, hj2⟩ := hp2
        have a := g3_64 hj hj2
        have b := cmS_8 Y D hp
        omega
      · refine g3_all fun i j hi hj hij => ?_
        have hd : DisD Y (pp Y T0 D p).1 := dis_push hY hW hD (k := p / 4) (by omega) (p % 4)
        refine hd i j (by omega) (by omega) hij ?_
        by_cases q : (pp Y T0 D p).1.1 i < 36
        · exact q
        · exact (hp2 ⟨i, hi, q⟩).elim
    rw [sm_add, sm_add, sm_mul] at pt
    have z : sm (fun _ => 144) 12 = 1728 := rfl
    have z2 : sm (fun _ => 27) 12 = 324 := rfl
    change sm (g3S Y D) 12 + _ + 4 * sm (cmS Y D) 12 ≤ _ at pt
    omega

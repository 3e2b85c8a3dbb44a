/-! ===== no two blocks in one cell; half-lines ===== -/
theorem sl_pl {Y : Yd} {T : Nat → Bool} {D0 : Dy} (D : Dy) (k d : Nat) : ∀ (n c : Nat) (tr : Nat → Bool), c < dn Y → (c = D0.1 k ∨ (blkD Y D0 c = none ∧ far Y d c < far Y d (D0.1 k))) → ∃ x, (slD Y T D0 D k d n c tr).2.1.1 = (setPl D k x).1 ∧ (36 ≤ x ∨ (x = D0.1 k ∨ (blkD Y D0 x = none ∧ far Y d x < far Y d (D0.1 k)))) ∧ ∀ j, (slD Y T D0 D k d n c tr).1 = some j → j < db Y ∧ (x = D0.1 k ∨ (blkD Y D0 x = none ∧ far Y d x < far Y d (D0.1 k))) ∧ D0.1 j < dn Y ∧ far Y d (D0.1 j) < far Y d x := by
  intro n
  induction n with
  | zero =>
    intro c tr hc h
    exact ⟨c, rfl, .inr h, fun j z => by cases z⟩
  | succ n ih =>
    intro c tr hc h
    cases hn : nxt Y c d with
    | none => rw [sl_wall hn]; exact ⟨c, rfl, .inr h, fun j z => by cases z⟩
    | some e =>
      obtain ⟨he, hfe⟩ := nxt_spec hc hn
      cases hb : blkD Y D0 e with
      | some j =>
        rw [sl_str hn hb]
        obtain ⟨j1, j2⟩ := blkD_lt hb
        refine ⟨c, rfl, .inr h, fun j' z => ?_⟩
        cases z
        exact ⟨j1, h, by omega, by rw [j2]; omega⟩
      | none =>
        have hfc : far Y d c ≤ far Y d (D0.1 k) := by
          rcases h with h | h
          · rw [h]; exact Nat.le_refl _
          · omega
        by_cases w3 : whatD Y T D0 e = 3
        · rw [sl_crk hn hb w3]
          exact ⟨36, rfl, .inl (Nat.le_refl _), fun j z => by cases z⟩
        · by_cases w4 : 4 ≤ whatD Y T D0 e
          · rw [sl_home hn hb w4]
            exact ⟨37 + (whatD Y T D0 e - 4), rfl, .inl (by omega), fun j z => by cases z⟩
          · by_cases w2 : whatD Y T D0 e = 2 ∧ dk Y k < 2
            · rw [sl_sand hn hb w2]
              exact ⟨e, rfl, .inr (.inr ⟨hb, by omega⟩), fun j z => by cases z⟩
            · rw [sl_on hn hb w3 w4 w2]
              exact ih e (adT tr e) he (.inr ⟨hb, by omega⟩)
theorem dis_ch {Y : Yd} {T : Nat → Bool} {D0 : Dy} {d : Nat} : ∀ (n k : Nat) (D : Dy) (tr : Nat → Bool), k < db Y → D0.1 k < dn Y → D0.1 k < 36 → D.1 k = D0.1 k → DisD Y D → (∀ j, j < db Y → ∀ e, far Y d e < far Y d (D0.1 k) → (D.1 j = e ↔ D0.1 j = e)) → dn Y ≤ 36 → DisD Y (chD Y T D0 d n k D tr).1 := by
  intro n
  induction n with
  | zero => intro k D tr _ _ _ _ h _ _; exact h
  | succ n ih =>
    intro k D tr hk hlt hl36 he hD hA h36
    obtain ⟨x, x1, x2, x3⟩ := sl_pl (Y := Y) (T := T) (D0 := D0) D k d 6 (D0.1 k) tr hlt (.inl rfl)
    have hx : ∀ i, i < db Y → i ≠ k → x < 36 → D.1 i ≠ x := by
      intro i hi hik hx36 hz
      rcases x2 with z | z | ⟨z, zf⟩
      · omega
      · rw [z, ← he] at hz
        exact hD i k hi hk hik (by rw [hz, he]; exact hl36) hz
      · exact blkD_none z hi ((hA i hi x zf).mp hz)
    have hD1 : DisD Y (slD Y T D0 D k d 6 (D0.1 k) tr).2.1 := by
      intro i j hi hj hij hl
      rw [x1] at hl ⊢
      change (if i = k then x else D.1 i) < 36 at hl
      show (if i = k then x else D.1 i) ≠ (if j = k then x else D.1 j)
      by_cases h1 : i = k
      · rw [if_pos h1] at hl ⊢
        rw [if_neg (fun z => hij (h1.trans z.symm))]
        exact (hx j hj (fun z => hij (h1.trans z.symm)) hl).symm
      · rw [if_neg h1] at hl ⊢
        by_cases h2 : j = k
        · rw [if_pos h2]
          by_cases h3 : x < 36
          · exact hx i hi h1 h3
          · omega
        · rw [if_neg h2]; exact hD i j hi hj hij hl
    unfold chD
    cases hr : (slD Y T D0 D k d 6 (D0.1 k) tr).1 with
    | none => exact hD1
    | some j =>
      obtain ⟨j1, j2, j3, j4⟩ := x3 j hr
      have hfx : far Y d x ≤ far Y d (D0.1 k) := by
        rcases j2 with z | z
        · rw [z]; exact Nat.le_refl _
        · omega
      have hjk : j ≠ k := fun z => by rw [z] at j4; omega
      by_cases q : 1 ≤ dk Y k
      · simp only [if_pos q]
        refine ih j _ _ j1 j3 (by omega) ?_ hD1 (fun i hi e hfe => ?_) h36
        · rw [x1]
          show (if j = k then x else D.1 j) = D0.1 j
          rw [if_neg hjk]
          exact (hA j j1 _ (by omega)).mpr rfl
        · rw [x1]
          show (if i = k then x else D.1 i) = e ↔ _
          by_cases h1 : i = k
          · rw [if_pos h1]
            constructor
            · intro z; rw [z] at j4; omega
            · intro z; rw [h1] at z; rw [z] at hfx; omega
          · rw [if_neg h1]; exact hA i hi e (by omega)
      · simp only [if_neg q]
        exact hD1
theorem dis_push {Y : Yd} (hY : WFY Y) {T : Nat → Bool} {D : Dy} (hW : WFD Y D) (hD : DisD Y D) {k : Nat} (hk : k < db Y) (d : Nat) : DisD Y (pushD Y T D k d).1 := by
  have h36 := dn_le hY
  unfold pushD
  by_cases hl : D.1 k < 36
  · have hlt : D.1 k < dn Y := by rcases hW k hk with z | z | z | z <;> omega
    rw [if_pos hl]
    exact dis_ch 6 k D _ hk hlt hl rfl hD (fun j _ e _ => Iff.rfl) h36
  · rw [if_neg hl]; exact hD
def HL (Y : Yd) (c d e : Nat) : Prop := match d with
  | 0 => e % dw Y = c % dw Y ∧ e / dw Y ≤ c / dw Y
  | 1 => e / dw Y = c / dw Y ∧ c % dw Y ≤ e % dw Y
  | 2 => e % dw Y = c % dw Y ∧ c / dw Y ≤ e / dw Y
  | _ => e / dw Y = c / dw Y ∧ e % dw Y ≤ c % dw Y
theorem rc_x {w y x : Nat} (h : x < w) : (w * y + x) % w = x ∧ (w * y + x) / w = y := by
  constructor
  · rw [Nat.mul_add_mod]; exact Nat.mod_eq_of_lt h
  · rw [Nat.mul_add_div (by omega), Nat.div_eq_of_lt h, Nat.add_zero]
theorem hl_cl (Y : Yd) (c d : Nat) : Cl Y d (HL Y c d) := by
  intro a e ha hH hn
  have hb := (nxt_some hn).1
  obtain ⟨hw, hy, hx, hm⟩ := cell_rc ha
  match d, hb, hH with
  | 0, hb, hH =>
    unfold besN at hb
    by_cases q : 0 < a / dw Y
    · rw [if_pos q] at hb
      cases hb
      have h1 : dw Y ≤ a := by
        by_cases z : dw Y ≤ a
        · exact z
        · rw [Nat.div_eq_of_lt (by omega)] at q; omega
      have e1 := Nat.mod_eq_sub_mod h1
      have e2 := Nat.div_eq_sub_div hw h1
      exact ⟨by rw [← e1]; exact hH.1, by have := hH.2; omega⟩
    · rw [if_neg q] at hb; cases hb
  | 1, hb, hH =>
    unfold besN at hb
    by_cases q : a % dw Y + 1 < dw Y
    · rw [if_pos q] at hb
      cases hb
      have e1 := rc_x (y := a / dw Y) q
      rw [show dw Y * (a / dw Y) + (a % dw Y + 1) = a + 1 by omega] at e1
      exact ⟨by rw [e1.2]; exact hH.1, by rw [e1.1]; have := hH.2; omega⟩
    · rw [if_neg q] at hb; cases hb
  | 2, hb, hH =>
    unfold besN at hb
    by_cases q : a / dw Y + 1 < dh Y
    · rw [if_pos q] at hb
      cases hb
      exact ⟨by rw [Nat.add_mod_right]; exact hH.1, by rw [Nat.add_div_right _ hw]; have := hH.2; omega⟩
    · rw [if_neg q] at hb; cases hb
  | d + 3, hb, hH =>
    unfold besN at hb
    by_cases q : 0 < a % dw Y
    · rw [if_pos q] at hb
      cases hb
      have e1 := rc_x (w := dw Y) (y := a / dw Y) (x := a % dw Y - 1) (by omega)
      rw [show dw Y * (a / dw Y) + (a % dw Y - 1) = a - 1 by omega] at e1
      exact ⟨by rw [e1.2]; exact hH.1, by rw [e1.1]; have := hH.2; omega⟩
    · rw [if_neg q] at hb; cases hb
theorem hl_rfl (Y : Yd) (c d : Nat) : HL Y c d c := by
  match d with
  | 0 => exact ⟨rfl, Nat.le_refl _⟩
  | 1 => exact ⟨rfl, Nat.le_refl _⟩
  | 2 => exact ⟨rfl, Nat.le_refl _⟩
  | d + 3 => exact ⟨rfl, Nat.le_refl _⟩
def cpN (a b : Nat) : Nat := if a < b then 0 else if a = b then 1 else 2
theorem cpN_sp (a b : Nat) : cpN a b = 0 ∧ a < b ∨ cpN a b = 1 ∧ a = b ∨ cpN a b = 2 ∧ b < a := by
  unfold cpN
  by_cases h : a < b
  · rw [if_pos h]; exact .inl ⟨rfl, h⟩
  · rw [if_neg h]
    by_cases h2 : a = b
    · rw [if_pos h2]; exact .inr (.inl ⟨rfl, h2⟩)
    · rw [if_neg h2]; exact .inr (.inr ⟨rfl, by omega⟩)
/-- half-lines without a common cell; which way the two cells lie to each other -/
def dj (d e ox oy : Nat) : Bool := match d, e with
  | 0, 0 => ox != 1
  | 2, 2 => ox != 1
  | 0, 2 => ox != 1 || oy == 0
  | 2, 0 => ox != 1 || oy == 2
  | 1, 1 => oy != 1
  | 3, 3 => oy != 1
  | 1, 3 => oy != 1 || ox == 2
  | 3, 1 => oy != 1 || ox == 0
  | 0, 1 => oy == 0 || ox == 0
  | 0, 3 => oy == 0 || ox == 2
  | 2, 1 => oy == 2 || ox == 0
  | 2, 3 => oy == 2 || ox == 2
  | 1, 0 => ox == 2 || oy == 2
  | 1, 2 => ox == 2 || oy == 0
  | 3, 0 => ox == 0 || oy == 2
  | 3, 2 => ox == 0 || oy == 0
  | _, _ => false
theorem hl_dj {Y : Yd} {c c' d e : Nat} (hd : d < 4) (he : e < 4) (h : dj d e (cpN (c % dw Y) (c' % dw Y)) (cpN (c / dw Y) (c' / dw Y)) = true) (z : Nat) (h1 : HL Y c d z) (h2 : HL Y c' e z) : False := by
  have hx := cpN_sp (c % dw Y) (c' % dw Y)
  have hy := cpN_sp (c / dw Y) (c' / dw Y)
  generalize cpN (c % dw Y) (c' % dw Y) = ox at *
  generalize cpN (c / dw Y) (c' / dw Y) = oy at *
  have h4 : ∀ n, n < 4 → n = 0 ∨ n = 1 ∨ n = 2 ∨ n = 3 := fun n _ => by omega
  rcases h4 d hd with rfl | rfl | rfl | rfl <;> rcases h4 e he with rfl | rfl | rfl | rfl <;> simp only [dj, HL, Bool.or_eq_true, bne_iff_ne, beq_iff_eq, ne_eq] at h h1 h2 <;> omega
theorem dj_9 : ∀ ox, ox < 3 → ∀ oy, oy < 3 → ¬ (ox = 1 ∧ oy = 1) → 9 ≤ ((List.range 4).map fun d => ((List.range 4).map fun e => if dj d e ox oy then 1 else 0).sum).sum := by decide

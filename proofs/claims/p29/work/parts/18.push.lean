/-! ===== one push, in the abstract ===== -/
def setPl (D : Dy) (k p : Nat) : Dy := (fun j => if j = k then p else D.1 j, D.2)
def filC (D : Dy) (c : Nat) : Dy := (D.1, fun i => i == c || D.2 i)
def adT (tr : Nat → Bool) (c : Nat) : Nat → Bool := fun i => tr i || decide (i = c)
/-- whom it strikes, the yard behind it, the cells come to, who came home by which gate -/
abbrev SR : Type := Option Nat × Dy × (Nat → Bool) × Option (Nat × Nat)
def slD (Y : Yd) (T : Nat → Bool) (D0 D : Dy) (k d : Nat) : Nat → Nat → (Nat → Bool) → SR
  | 0, c, tr => (none, setPl D k c, tr, none)
  | n + 1, c, tr => match nxt Y c d with
    | none => (none, setPl D k c, tr, none)
    | some e => match blkD Y D0 e with
      | some j => (some j, setPl D k c, tr, none)
      | none => if whatD Y T D0 e = 3 then (none, filC (setPl D k 36) e, adT tr e, none)
        else if 4 ≤ whatD Y T D0 e then (none, setPl D k (37 + (whatD Y T D0 e - 4)), adT tr e, some (k, whatD Y T D0 e - 4))
        else if whatD Y T D0 e = 2 ∧ dk Y k < 2 then (none, setPl D k e, adT tr e, none)
        else slD Y T D0 D k d n e (adT tr e)
abbrev PR : Type := Dy × (Nat → Bool) × Option (Nat × Nat)
def chD (Y : Yd) (T : Nat → Bool) (D0 : Dy) (d : Nat) : Nat → Nat → Dy → (Nat → Bool) → PR
  | 0, _, D, tr => (D, tr, none)
  | n + 1, k, D, tr => match (slD Y T D0 D k d 6 (D0.1 k) tr).1 with
    | none => (slD Y T D0 D k d 6 (D0.1 k) tr).2
    | some j => if 1 ≤ dk Y k then chD Y T D0 d n j (slD Y T D0 D k d 6 (D0.1 k) tr).2.1 (slD Y T D0 D k d 6 (D0.1 k) tr).2.2.1
      else (slD Y T D0 D k d 6 (D0.1 k) tr).2
def pushD (Y : Yd) (T : Nat → Bool) (D : Dy) (k d : Nat) : PR := if D.1 k < 36 then chD Y T D d 6 k D (fun _ => false) else (D, fun _ => false, none)
def anyT (Y : Yd) (tr : Nat → Bool) : Bool := (List.range (dn Y)).any tr
/-- the cell beside one, walls or not -/
def besN (Y : Yd) (c d : Nat) : Option Nat := match d with
    | 0 => if 0 < c / dw Y then some (c - dw Y) else none
    | 1 => if c % dw Y + 1 < dw Y then some (c + 1) else none
    | 2 => if c / dw Y + 1 < dh Y then some (c + dw Y) else none
    | _ => if 0 < c % dw Y then some (c - 1) else none
theorem nxt_bes (Y : Yd) (c d : Nat) : nxt Y c d = (besN Y c d).bind fun c2 => if dg Y c2 = 1 then none else some c2 := rfl
/-- how many cells there are ahead of a cell -/
def far (Y : Yd) (d c : Nat) : Nat := match d with
    | 0 => c / dw Y
    | 1 => dw Y - 1 - c % dw Y
    | 2 => dh Y - 1 - c / dw Y
    | _ => c % dw Y
theorem cell_rc {Y : Yd} {c : Nat} (hc : c < dn Y) : 0 < dw Y ∧ c / dw Y < dh Y ∧ c % dw Y < dw Y ∧ dw Y * (c / dw Y) + c % dw Y = c := by
  have hw : 0 < dw Y := by
    rcases Nat.eq_zero_or_pos (dw Y) with e | e
    · have : dn Y = 0 := by show dh Y * dw Y = 0; rw [e]; rfl
      omega
    · exact e
  exact ⟨hw, (Nat.div_lt_iff_lt_mul hw).mpr hc, Nat.mod_lt _ hw, Nat.div_add_mod c (dw Y)⟩
theorem rc_of {w y x : Nat} (hx : x < w) : (w * y + x) / w = y ∧ (w * y + x) % w = x := by
  have hw : 0 < w := by omega
  constructor
  · rw [Nat.mul_add_div hw, Nat.div_eq_of_lt hx, Nat.add_zero]
  · rw [Nat.mul_add_mod, Nat.mod_eq_of_lt hx]
theorem rc_lt {h w y x : Nat} (hy : y < h) (hx : x < w) : w * y + x < h * w := by
  have : w * (y + 1) ≤ h * w := by rw [Nat.mul_comm h w]; exact Nat.mul_le_mul_left _ hy
  rw [Nat.mul_add] at this
  omega
theorem bes_spec {Y : Yd} {c d e : Nat} (hc : c < dn Y) (h : besN Y c d = some e) : e < dn Y ∧ far Y d e + 1 = far Y d c := by
  obtain ⟨hw, hy, hx, hm⟩ := cell_rc hc
  have hdn : dn Y = dh Y * dw Y := rfl
  generalize hyv : c / dw Y = y at hy hm
  generalize hxv : c % dw Y = x at hx hm
  match d, h with
  | 0, h =>
    unfold besN at h
    rw [hyv] at h
    by_cases q : 0 < y
    · rw [if_pos q] at h
      cases h
      obtain ⟨y', rfl⟩ : ∃ y', y = y' + 1 := ⟨y - 1, by omega⟩
      have e2 : c - dw Y = dw Y * y' + x := by rw [Nat.mul_add] at hm; omega
      rw [e2, hdn]
      refine ⟨rc_lt (by omega) hx, ?_⟩
      show (dw Y * y' + x) / dw Y + 1 = c / dw Y
      rw [(rc_of hx).1, hyv]
    · rw [if_neg q] at h; cases h
  | 1, h =>
    unfold besN at h
    rw [hxv] at h
    by_cases q : x + 1 < dw Y
    · rw [if_pos q] at h
      cases h
      have e2 : c + 1 = dw Y * y + (x + 1) := by omega
      rw [e2, hdn]
      refine ⟨rc_lt hy q, ?_⟩
      show dw Y - 1 - (dw Y * y + (x + 1)) % dw Y + 1 = dw Y - 1 - c % dw Y
      rw [(rc_of q).2, hxv]
      omega
    · rw [if_neg q] at h; cases h
  | 2, h =>
    unfold besN at h
    rw [hyv] at h
    by_cases q : y + 1 < dh Y
    · rw [if_pos q] at h
      cases h
      have e2 : c + dw Y = dw Y * (y + 1) + x := by rw [Nat.mul_add]; omega
      rw [e2, hdn]
      refine ⟨rc_lt q hx, ?_⟩
      show dh Y - 1 - (dw Y * (y + 1) + x) / dw Y + 1 = dh Y - 1 - c / dw Y
      rw [(rc_of hx).1, hyv]
      omega
    · rw [if_neg q] at h; cases h
  | d + 3, h =>
    unfold besN at h
    rw [hxv] at h
    by_cases q : 0 < x
    · rw [if_pos q] at h
      cases h
      have e2 : c - 1 = dw Y * y + (x - 1) := by omega
      rw [e2, hdn]
      refine ⟨rc_lt hy (by omega), ?_⟩
      show (dw Y * y + (x - 1)) % dw Y + 1 = c % dw Y
      rw [(rc_of (show x - 1 < dw Y by omega)).2, hxv]
      omega
    · rw [if_neg q] at h; cases h
theorem far_lt {Y : Yd} (hY : WFY Y) {c d : Nat} (hc : c < dn Y) : far Y d c < 6 := by
  obtain ⟨hw, hy, hx, hm⟩ := cell_rc hc
  have h1 : dh Y ≤ 6 ∧ dw Y ≤ 6 := by rcases hY.1 with q | q <;> omega
  match d with
  | 0 => show c / dw Y < 6; omega
  | 1 => show dw Y - 1 - c % dw Y < 6; omega
  | 2 => show dh Y - 1 - c / dw Y < 6; exact Nat.lt_of_le_of_lt (Nat.sub_le _ _) (by omega)
  | d + 3 => show c % dw Y < 6; omega
theorem nxt_some {Y : Yd} {c d e : Nat} (h : nxt Y c d = some e) : besN Y c d = some e ∧ dg Y e ≠ 1 := by
  rw [nxt_bes] at h
  cases hb : besN Y c d with
  | none => rw [hb] at h; cases h
  | some q =>
    rw [hb] at h
    change (if dg Y q = 1 then none else some q) = some e at h
    by_cases g : dg Y q = 1
    · rw [if_pos g] at h; cases h
    · rw [if_neg g] at h; cases h; exact ⟨rfl, g⟩
theorem nxt_spec {Y : Yd} {c d e : Nat} (hc : c < dn Y) (h : nxt Y c d = some e) : e < dn Y ∧ far Y d e + 1 = far Y d c := bes_spec hc (nxt_some h).1
theorem what_le {Y : Yd} (hY : WFY Y) (T : Nat → Bool) (D : Dy) {c : Nat} (hc : c < dn Y) : whatD Y T D c ≤ 5 := by
  have := hY.2.2.1 c hc
  unfold whatD
  by_cases h : T c = true
  · rw [if_pos h]; omega
  · rw [if_neg h]
    by_cases h2 : dg Y c = 3 ∧ D.2 c = true
    · rw [if_pos h2]; omega
    · rw [if_neg h2]; exact this
theorem wfd_set {Y : Yd} {D : Dy} (h : WFD Y D) {k p : Nat} (hp : p < dn Y ∨ p = 36 ∨ p = 37 ∨ p = 38) : WFD Y (setPl D k p) := by
  intro j hj
  show (if j = k then p else D.1 j) < dn Y ∨ (if j = k then p else D.1 j) = 36 ∨ (if j = k then p else D.1 j) = 37 ∨ (if j = k then p else D.1 j) = 38
  by_cases e : j = k
  · rw [if_pos e]; exact hp
  · rw [if_neg e]; exact h j hj
theorem sl_wall {Y : Yd} {T : Nat → Bool} {D0 D : Dy} {k d n c : Nat} {tr : Nat → Bool} (hn : nxt Y c d = none) : slD Y T D0 D k d (n + 1) c tr = (none, setPl D k c, tr, none) := by
  simp only [slD, hn]
theorem sl_str {Y : Yd} {T : Nat → Bool} {D0 D : Dy} {k d n c e j : Nat} {tr : Nat → Bool} (hn : nxt Y c d = some e) (hb : blkD Y D0 e = some j) : slD Y T D0 D k d (n + 1) c tr = (some j, setPl D k c, tr, none) := by
  simp only [slD, hn, hb]
theorem sl_crk {Y : Yd} {T : Nat → Bool} {D0 D : Dy} {k d n c e : Nat} {tr : Nat → Bool} (hn : nxt Y c d = some e) (hb : blkD Y D0 e = none) (w : whatD Y T D0 e = 3) : slD Y T D0 D k d (n + 1) c tr = (none, filC (setPl D k 36) e, adT tr e, none) := by
  simp only [slD, hn, hb, if_pos w]
theorem sl_home {Y : Yd} {T : Nat → Bool} {D0 D : Dy} {k d n c e : Nat} {tr : Nat → Bool} (hn : nxt Y c d = some e) (hb : blkD Y D0 e = none) (w : 4 ≤ whatD Y T D0 e) : slD Y T D0 D k d (n + 1) c tr = (none, setPl D k (37 + (whatD Y T D0 e - 4)), adT tr e, some (k, whatD Y T D0 e - 4)) := by
  simp only [slD, hn, hb]
  rw [if_neg (by omega), if_pos w]
theorem sl_sand {Y : Yd} {T : Nat → Bool} {D0 D : Dy} {k d n c e : Nat} {tr : Nat → Bool} (hn : nxt Y c d = some e) (hb : blkD Y D0 e = none) (w : whatD Y T D0 e = 2 ∧ dk Y k < 2) : slD Y T D0 D k d (n + 1) c tr = (none, setPl D k e, adT tr e, none) := by
  simp only [slD, hn, hb]
  rw [if_neg (by omega), if_neg (by omega), if_pos w]
theorem sl_on {Y : Yd} {T : Nat → Bool} {D0 D : Dy} {k d n c e : Nat} {tr : Nat → Bool} (hn : nxt Y c d = some e) (hb : blkD Y D0 e = none) (w3 : ¬ whatD Y T D0 e = 3) (w4 : ¬ 4 ≤ whatD Y T D0 e) (w : ¬ (whatD Y T D0 e = 2 ∧ dk Y k < 2)) : slD Y T D0 D k d (n + 1) c tr = slD Y T D0 D k d n e (adT tr e) := by
  simp only [slD, hn, hb]
  rw [if_neg w3, if_neg w4, if_neg w]
/-- what holds of a slide's end -/
def SlP (Y : Yd) (D0 D : Dy) (k d c : Nat) (tr : Nat → Bool) (r : SR) : Prop :=
    WFD Y r.2.1 ∧ (∀ i, i ≠ k → r.2.1.1 i = D.1 i) ∧ (∀ i, r.2.2.1 i = true → tr i = true ∨ i < dn Y) ∧ (∀ g, r.2.2.2 = some g → g.1 = k ∧ g.2 < 2 ∧ r.1 = none ∧ r.2.1.1 k = 37 + g.2) ∧
    (r.2.2.2 = none → r.2.1.1 k ≤ 36) ∧
    ∀ j, r.1 = some j → r.2.2.2 = none ∧ r.2.1.2 = D.2 ∧ j < db Y ∧ D0.1 j < dn Y ∧ r.2.1.1 k < dn Y ∧ far Y d (D0.1 j) + 1 = far Y d (r.2.1.1 k) ∧ far Y d (r.2.1.1 k) ≤ far Y d c
/-- what a slide keeps; whom it strikes lies ahead, next to where it stops -/
theorem sl_spec {Y : Yd} (hY : WFY Y) (T : Nat → Bool) (D0 : Dy) {D : Dy} (hD : WFD Y D) (k d : Nat) : ∀ (n c : Nat) (tr : Nat → Bool), c < dn Y → far Y d c < n → SlP Y D0 D k d c tr (slD Y T D0 D k d n c tr) := by
  have h36 := dn_le hY
  have hset : ∀ p i, i ≠ k → (setPl D k p).1 i = D.1 i := fun p i hi => if_neg hi
  have hsk : ∀ p, (setPl D k p).1 k = p := fun p => if_pos rfl
  intro n
  induction n with
  | zero => intro c tr hc hf; omega
  | succ n ih =>
    intro c tr hc hf
    cases hn : nxt Y c d with
    | none =>
      rw [sl_wall hn]
      exact ⟨wfd_set hD (.inl hc), hset c, fun i h => .inl h, (fun g h => by cases h), (fun _ => by show (setPl D k c).1 k ≤ 36; rw [hsk]; omega), (fun j h => by cases h)⟩
    | some e =>
      obtain ⟨he, hfe⟩ := nxt_spec hc hn
      have htr : ∀ i, adT tr e i = true → tr i = true ∨ i < dn Y := fun i h => by
        unfold adT at h
        rw [Bool.or_eq_true, decide_eq_true_eq] at h
        rcases h with h | h
        · exact .inl h
        · right; omega
      cases hb : blkD Y D0 e with
      | some j =>
        obtain ⟨hj, hje⟩ := blkD_lt hb
        rw [sl_str hn hb]
        refine ⟨wfd_set hD (.inl hc), hset c, fun i h => .inl h, (fun g h => by cases h), (fun _ => by show (setPl D k c).1 k ≤ 36; rw [hsk]; omega), fun j' h => ?_⟩
        cases h
        refine ⟨rfl, rfl, hj, by omega, ?_, ?_, ?_⟩
        · show (setPl D k c).1 k < dn Y; rw [hsk]; exact hc
        · show _ = far Y d ((setPl D k c).1 k); rw [hsk, hje]; exact hfe
        · show far Y d ((setPl D k c).1 k) ≤ _; rw [hsk]; exact Nat.le_refl _
      | none =>
        have hle := what_le hY T D0 he
        by_cases w3 : whatD Y T D0 e = 3
        · rw [sl_crk hn hb w3]
          exact ⟨wfd_set hD (.inr (.inl rfl)), hset 36, htr, (fun g h => by cases h), (fun _ => by show (setPl D k 36).1 k ≤ 36; rw [hsk]; omega), (fun j h => by cases h)⟩
        · by_cases w4 : 4 ≤ whatD Y T D0 e
          · rw [sl_home hn hb w4]
            refine ⟨wfd_set hD (by omega), hset _, htr, fun g h => ?_, (fun h => by cases h), (fun j h => by cases h)⟩
            cases h
            exact ⟨rfl, by show whatD Y T D0 e - 4 < 2; omega, rfl, hsk _⟩
          · by_cases w2 : whatD Y T D0 e = 2 ∧ dk Y k < 2
            · rw [sl_sand hn hb w2]
              exact ⟨wfd_set hD (.inl he), hset e, htr, (fun g h => by cases h), (fun _ => by show (setPl D k e).1 k ≤ 36; rw [hsk]; omega), (fun j h => by cases h)⟩
            · rw [sl_on hn hb w3 w4 w2]
              obtain ⟨i1, i2, i3, i4, i5, i6⟩ := ih e (adT tr e) he (by omega)
              refine ⟨i1, i2, fun i h => ?_, i4, i5, fun j h => ?_⟩
              · rcases i3 i h with q | q
                · exact htr i q
                · exact .inr q
              · obtain ⟨j1, j2, j3, j4, j5, j6, j7⟩ := i6 j h
                exact ⟨j1, j2, j3, j4, j5, j6, by omega⟩

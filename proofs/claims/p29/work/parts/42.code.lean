/-! ===== fewest: the reference's codes ===== -/
def ck (Y : Yd) (D : Dy) (k : Nat) : Nat := if k < db Y then D.1 k else pad Y
def itsN (Y : Yd) (D : Dy) : Nat → Nat
  | 0 => 0
  | k + 1 => itsN Y D k * 64 + ck Y D k
def setF (Y : Yd) (D : Dy) (j : Nat) : Bool := decide (j < (crs Y).length) && D.2 ((crs Y).getD j 0)
def setN (Y : Yd) (D : Dy) : Nat := sumB (setF Y D) 4
def codeN (Y : Yd) (D : Dy) : Nat := itsN Y D 6 * 16 + setN Y D
theorem ck_lt {Y : Yd} (hY : WFY Y) {D : Dy} (hD : WFD Y D) (k : Nat) : ck Y D k < 39 := by
  unfold ck
  by_cases h : k < db Y
  · rw [if_pos h]; exact wfd_lt hY hD h
  · rw [if_neg h]
    unfold pad
    by_cases h0 : dh Y = 0
    · rw [if_pos h0]; omega
    · rw [if_neg h0]; omega
theorem plM_ck (Y : Yd) (D : Dy) (k : Nat) : plM Y D k = lieI (ck Y D k) := rfl
theorem its_lt {Y : Yd} (hY : WFY Y) {D : Dy} (hD : WFD Y D) : ∀ k, itsN Y D k < 64 ^ k := by
  intro k
  induction k with
  | zero => exact Nat.one_pos
  | succ k ih =>
    unfold itsN
    have := ck_lt hY hD k
    rw [Nat.pow_succ]
    omega
theorem its6 {Y : Yd} (hY : WFY Y) {D : Dy} (hD : WFD Y D) {k : Nat} (hk : k ≤ 6) : itsN Y D k < 2 ^ 36 := by
  have := its_lt hY hD k
  have h2 : 64 ^ k ≤ 64 ^ 6 := Nat.pow_le_pow_right (by decide) hk
  have h3 : (64 : Nat) ^ 6 = 2 ^ 36 := by decide
  omega
theorem set_lt (Y : Yd) (D : Dy) : setN Y D < 16 := sum_lt _ 4
theorem code_lt {Y : Yd} (hY : WFY Y) {D : Dy} (hD : WFD Y D) : codeN Y D < 2 ^ 40 := by
  have := its6 hY hD (Nat.le_refl 6)
  have := set_lt Y D
  unfold codeN
  omega
/-- how many cracks lie ahead of a cell -/
def cn (Y : Yd) (c : Nat) : Nat := cnt (fun c => dg Y c == 3) c
theorem cn_len (Y : Yd) : cn Y (dn Y) = (crs Y).length := by unfold cn crs; rw [cnt_fil]
theorem fil_ix {p : Nat → Bool} : ∀ {n c : Nat}, c < n → p c = true → cnt p c < ((List.range n).filter p).length ∧ ((List.range n).filter p).getD (cnt p c) 0 = c := by
  intro n
  induction n with
  | zero => intro c hc; omega
  | succ n ih =>
    intro c hc hp
    rw [List.range_succ, List.filter_append]
    by_cases e : c = n
    · subst e
      have hl := cnt_fil p c
      rw [← hl]
      have h1 : List.filter p [c] = [c] := by simp [hp]
      rw [h1]
      constructor
      · rw [List.length_append]; simp
      · rw [List.getD_eq_getElem?_getD, List.getElem?_append_right (Nat.le_refl _), Nat.sub_self]
        rfl
    · obtain ⟨h1, h2⟩ := ih (c := c) (by omega) hp
      constructor
      · rw [List.length_append]; omega
      · rw [List.getD_eq_getElem?_getD, List.getElem?_append_left h1, ← List.getD_eq_getElem?_getD]
        exact h2
theorem crs_ix {Y : Yd} {c : Nat} (hc : c < dn Y) (h3 : dg Y c = 3) : cn Y c < (crs Y).length ∧ (crs Y).getD (cn Y c) 0 = c := fil_ix (p := fun c => dg Y c == 3) hc (by simp [h3])
theorem cn_s (Y : Yd) (c : Nat) : cn Y (c + 1) = cn Y c + if dg Y c = 3 then 1 else 0 := by
  show cnt _ c + (if (dg Y c == 3) then 1 else 0) = _
  by_cases h : dg Y c = 3
  · rw [if_pos h, if_pos (by simp [h])]; rfl
  · rw [if_neg h, if_neg (by simp [h])]; rfl
theorem cn_le (Y : Yd) {c : Nat} (hc : c ≤ dn Y) : cn Y c ≤ (crs Y).length := by
  rw [← cn_len]
  obtain ⟨k, hk⟩ : ∃ k, dn Y = c + k := ⟨dn Y - c, by omega⟩
  rw [hk]
  clear hk hc
  induction k with
  | zero => exact Nat.le_refl _
  | succ k ih =>
    rw [← Nat.add_assoc, cn_s]
    omega
theorem ite_shl (b : Bool) {j : Nat} (hj : j < 64) (q : Nat) : bit64 ((if b then (1 : Int64) else 0) <<< ((nI j).toInt64 &&& 63)) q = (b && decide (q = j)) := by
  cases b
  · rw [if_neg (by decide), w_shl _ hj, w_0]; simp
  · rw [if_pos rfl, w_one hj]; simp
def x7I (m : Nat) : Int32 := match m with
  | 0 => -1
  | m + 1 => nI m
theorem x7_s (m : Nat) : nI m + (-1) = x7I m := by
  cases m with
  | zero => decide
  | succ m => exact pk_m1 m
/-- a code tells the yard -/
theorem code_inj {Y : Yd} (hY : WFY Y) {D D' : Dy} (hD : WFD Y D) (hD' : WFD Y D') : codeN Y D = codeN Y D' ↔ EqD Y D D' := by
  have s1 := set_lt Y D
  have s2 := set_lt Y D'
  have h4 := hY.2.2.2.1
  have h6 := hY.2.1
  constructor
  · intro e
    have e1 : setN Y D = setN Y D' := by unfold codeN at e; omega
    have e2 : itsN Y D 6 = itsN Y D' 6 := by unfold codeN at e; omega
    have hk : ∀ m, m ≤ 6 → itsN Y D m = itsN Y D' m → ∀ k, k < m → ck Y D k = ck Y D' k := by
      intro m
      induction m with
      | zero => intro _ _ k hk; omega
      | succ m ih =>
        intro hm he k hk
        have l1 := ck_lt hY hD m
        have l2 := ck_lt hY hD' m
        have he' : itsN Y D m * 64 + ck Y D m = itsN Y D' m * 64 + ck Y D' m := he
        by_cases q : k = m
        · subst q; omega
        · exact ih (by omega) (by omega) k (by omega)
    refine ⟨fun k hkb => ?_, fun c hc h3 => ?_⟩
    · have := hk 6 (Nat.le_refl _) e2 k (by omega)
      unfold ck at this
      rw [if_pos hkb, if_pos hkb] at this
      exact this
    · obtain ⟨j, hj, rfl⟩ := crs_of hc h3
      have b1 := sum_bit (setF Y D) 4 j
      have b2 := sum_bit (setF Y D') 4 j
      change (setN Y D).testBit j = _ at b1
      change (setN Y D').testBit j = _ at b2
      rw [e1, b2, decide_eq_true (by omega), Bool.true_and, Bool.true_and] at b1
      unfold setF at b1
      rw [decide_eq_true hj, Bool.true_and, Bool.true_and] at b1
      exact b1.symm
  · intro e
    have hck : ∀ k, ck Y D k = ck Y D' k := fun k => by
      unfold ck
      by_cases q : k < db Y
      · rw [if_pos q, if_pos q, e.1 k q]
      · rw [if_neg q, if_neg q]
    have hi : ∀ m, itsN Y D m = itsN Y D' m := by
      intro m
      induction m with
      | zero => rfl
      | succ m ih => unfold itsN; rw [ih, hck]
    have hs : ∀ n, sumB (setF Y D) n = sumB (setF Y D') n := by
      intro n
      induction n with
      | zero => rfl
      | succ n ih =>
        unfold sumB
        rw [ih]
        congr 2
        unfold setF
        by_cases q : n < (crs Y).length
        · have := crs_at q
          rw [e.2 _ this.1 this.2]
        · rw [decide_eq_false q]; simp
    unfold codeN setN
    rw [hi, hs]

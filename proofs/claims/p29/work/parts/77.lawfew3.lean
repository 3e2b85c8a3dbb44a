/-! ===== the class's fewest against the law's ===== -/
def FewP (A : As) (boy : Nat) : Prop := ((∀ q, fewA A boy q = -9) ∧ ∀ v, ¬ hiW (aY A) boy (aD A) v) ∨ (∃ u, hiW (aY A) boy (aD A) u ∧ (∀ v, hiW (aY A) boy (aD A) v → keyW (4 * db (aY A)) u ≤ keyW (4 * db (aY A)) v) ∧ 1 ≤ u.length ∧ u.length ≤ 1500 ∧ fewA A boy (-1) = nI u.length ∧ (∀ q, q < u.length → fewA A boy (nI q) = nI (num (u.getD (u.length - 1 - q) 0))) ∧ fewA A boy (nI u.length) = -9) ∨ ((∀ q, fewA A boy q = -5) ∧ ∀ v, hiW (aY A) boy (aD A) v → 3 < v.length)
theorem few_p {A : As} (hA : WA A) (h3 : db (aY A) ≤ 3) (hdis : DisD (aY A) (aD A)) {σ : Mem} (hX : RX A σ) {boy : Nat} (hb : boy < 2) : FewP A boy := by
  have hr := few_ok (g := boy) hA.1 h3 hA.2.1 hdis
  change BfsR (aY A) boy (aD A) (fewR A boy) at hr
  rcases hr with ⟨r1, r2⟩ | ⟨r1, W, r2, r3, r4, r5⟩ | ⟨r1, r2⟩
  · refine .inl ⟨fun q => ?_, r2⟩
    unfold fewA
    rw [if_pos r1]
  · have hE := r2.1
    have hrow : rowR (fewR A boy).2.1 (fewR A boy).2.2.1 (fewR A boy).2.2.2 = (fewR A boy).2.2.2 :: W (fewR A boy).2.2.1 := rev_ok r2 1500 _ _ r3 (by omega)
    obtain ⟨σ', _, _, hS, _⟩ := fpx_eq hA hX hb (q := -1) (by decide)
    have hri := revP_len_i hS 1500 (fewR A boy).2.2.1 (fewR A boy).2.2.2 r3
    have hn := hS.1
    unfold rowR at hrow
    rw [hrow] at hri
    change rowR (fewR A boy).2.1 (fewR A boy).2.2.1 (fewR A boy).2.2.2 = _ at hrow
    generalize hu : (fewR A boy).2.2.2 :: W (fewR A boy).2.2.1 = u at *
    have hl1 : 1 ≤ u.length := by rw [← hu]; simp
    have hl2 : u.length ≤ 1500 := by omega
    have n1 : ¬ (fewR A boy).1 = 0 := by rw [r1]; decide
    refine .inr (.inl ⟨u, r4, r5, hl1, hl2, ?_, fun q hq => ?_, ?_⟩)
    · unfold fewA
      rw [if_neg n1, if_pos r1, if_pos rfl, hrow]
    · unfold fewA
      have hqm : ¬ nI q = -1 := fun z => by
        have := congrArg Int32.toInt z
        rw [nI_toInt (by omega)] at this
        change (q : Int) = -1 at this
        omega
      rw [if_neg n1, if_pos r1, if_neg hqm, hrow, if_pos (nI_lt hq (by omega)), nI_toInt (by omega)]
      rfl
    · unfold fewA
      have hqm : ¬ nI u.length = -1 := fun z => by
        have := congrArg Int32.toInt z
        rw [nI_toInt (by omega)] at this
        change (u.length : Int) = -1 at this
        omega
      rw [if_neg n1, if_pos r1, if_neg hqm, hrow, if_neg (nI_nlt (Nat.le_refl _) (by omega))]
  · refine .inr (.inr ⟨fun q => ?_, r2⟩)
    unfold fewA
    rw [if_neg (by rw [r1]; decide), if_neg (by rw [r1]; decide)]
theorem nd_suf {Y : Yd} {g : Nat} {D : Dy} : ∀ (a w : List Nat), ndW Y g D (a ++ w) → ndW Y g D w := by
  intro a
  induction a with
  | nil => intro w h; exact h
  | cons x a ih => intro w h; exact ih w h.1
/-- the next push of a row that comes home *)-/
theorem hi_step {Y : Yd} {g : Nat} {D : Dy} {a v : List Nat} {p : Nat} (h : hiW Y g D (a ++ p :: v)) : ndW Y g D v ∧ p < 4 * db Y ∧ gsF Y (stW Y D v) p = true ∧ (hgt (pp Y T0 (stW Y D v) p) = some g ↔ a = []) := by
  cases a with
  | nil => exact ⟨h.1, h.2.1, h.2.2.1, fun _ => rfl, fun _ => h.2.2.2⟩
  | cons x a =>
    have hn := nd_suf a (p :: v) h.1
    exact ⟨hn.1, hn.2.1, hn.2.2.1, fun z => absurd z hn.2.2.2, fun z => by cases z⟩
theorem wd_get {B : Nat} : ∀ (n k z : Nat), k < n → (wdW B n z).getD k 0 = z / B ^ k % B := by
  intro n
  induction n with
  | zero => intro k z h; omega
  | succ n ih =>
    intro k z h
    cases k with
    | zero =>
      show z % B = _
      rw [Nat.pow_zero, Nat.div_one]
    | succ k =>
      show (wdW B n (z / B)).getD k 0 = _
      rw [ih k _ (by omega), Nat.div_div_eq_div_mul, Nat.pow_succ, Nat.mul_comm]
theorem num_d {p : Nat} (hp : p < 1000) : nI (num p) / (10 : Int32) = nI (p / 4) ∧ nI (num p) - nI (num p) / (10 : Int32) * (10 : Int32) = nI (p % 4) := by
  have e : (10 : Int32) = nI 10 := rfl
  unfold num
  rw [e, pk_md (by omega) (by decide) (by decide), pk_div (by omega) (by decide) (by decide)]
  exact ⟨congrArg nI (by omega), congrArg nI (by omega)⟩
section LH
variable {L : Nat} {xs0 : Nat → Int32} {A : As} {y g l : Nat → Int32} {s3 : Nat → Int64}
theorem t_663 (hA : WA A) {σ : Mem} (hX : RX A σ) {boy : Nat} (hb : boy < 2) (rl191 : RB) (n : Nat) {x11 : Int32} (h : (x11 = -9 ∧ fewA A boy 0 = -9) ∨ (x11 = -5 ∧ fewA A boy 0 = -5) ∨ ∃ k, 1 ≤ k ∧ k ≤ 1500 ∧ x11 = nI k ∧ fewA A boy (nI k) = -9) : ∃ σ', RX A σ' ∧ FL_law_663 L xs0 rl191 σ n y g l s3 (nI (4 * db (aY A))) (nI boy) x11 = rl191 σ' n y g l s3 (nI (4 * db (aY A))) (nI (boy + 1)) := by
  unfold FL_law_663
  rcases h with ⟨rfl, h⟩ | ⟨rfl, h⟩ | ⟨k, k1, k2, rfl, h⟩
  · obtain ⟨σ', a1, a2, _, _⟩ := fpx_eq hA hX hb (q := 0) (by decide)
    refine ⟨σ', a2, ?_⟩
    rw [if_pos (by decide)]
    unfold FL_law_677
    rw [a1, bi_some, if_neg (by decide), h, if_pos rfl, nm_eq, nI_1]
  · obtain ⟨σ', a1, a2, _, _⟩ := fpx_eq hA hX hb (q := 0) (by decide)
    refine ⟨σ', a2, ?_⟩
    rw [if_pos (by decide)]
    unfold FL_law_677
    rw [a1, bi_some, if_pos rfl, h, if_pos rfl, nm_eq, nI_1]
  · obtain ⟨σ', a1, a2, _, _⟩ := fpx_eq hA hX hb (q := nI k) (by rw [nI_toInt (by omega)]; omega)
    refine ⟨σ', a2, ?_⟩
    rw [if_neg (nI_nle (by omega) (by omega))]
    unfold FL_law_677
    have h5 : ¬ nI k = -5 := fun z => by
      have := congrArg Int32.toInt z
      rw [nI_toInt (by omega)] at this
      change (k : Int) = -5 at this
      omega
    rw [a1, bi_some, if_neg h5, h, if_pos rfl, nm_eq, nI_1]
/-- a long row of the class's is gone through -/
theorem t_579 (hw : Lw A y g l (s3 0)) {boy : Nat} (hb : boy < 2) (rl191 : RB) (n : Nat) {u : List Nat} (hu : hiW (aY A) boy (aD A) u) (hl : u.length ≤ 1500) (hq : ∀ q, q < u.length → fewA A boy (nI q) = nI (num (u.getD (u.length - 1 - q) 0))) : ∀ (rest v : List Nat) (fuel : Nat) (σ : Mem) (A4 : Nat → Int32) (A5 : Nat → Int64), rest.reverse ++ v = u → rest.length < fuel → EncM (aY A) (stW (aY A) (aD A) v) A4 (A5 0) → (∀ j, bit64 (A5 2) j = T0 j) → RX A σ → ∃ σ', RX A σ' ∧ FL_law_579 L xs0 rl191 fuel σ n y g l s3 A4 A5 (nI (4 * db (aY A))) (nI boy) (nI u.length) (nI v.length) = FL_law_663 L xs0 rl191 σ' n y g l s3 (nI (4 * db (aY A))) (nI boy) (nI u.length) := by
  obtain ⟨hA, hY, hE, h3, hd, hdis⟩ := hw
  intro rest
  induction rest with
  | nil =>
    intro v fuel σ A4 A5 hv hf hE4 hT hX
    obtain ⟨f, rfl⟩ : ∃ f, fuel = f + 1 := ⟨fuel - 1, by omega⟩
    have hv : v = u := hv
    subst hv
    refine ⟨σ, hX, ?_⟩
    show BL_law_579 L xs0 rl191 (FL_law_579 L xs0 rl191 f) σ n y g l s3 A4 A5 (nI (4 * db (aY A))) (nI boy) (nI v.length) (nI v.length) = _
    unfold BL_law_579
    rw [if_pos (nI_le (Nat.le_refl _) (by omega))]
  | cons p rest ih =>
    intro v fuel σ A4 A5 hv hf hE4 hT hX
    obtain ⟨f, rfl⟩ : ∃ f, fuel = f + 1 := ⟨fuel - 1, by omega⟩
    rw [List.reverse_cons, List.append_assoc] at hv
    have hv2 : rest.reverse ++ (p :: v) = u := hv
    have hul : u.length = rest.length + (v.length + 1) := by rw [← hv2, List.length_append, List.length_reverse, List.length_cons]
    rw [List.length_cons] at hf
    have hs : hiW (aY A) boy (aD A) (rest.reverse ++ p :: v) := by rw [hv2]; exact hu
    obtain ⟨n1, n2, n3, n4⟩ := hi_step hs
    have hget : u.getD (u.length - 1 - v.length) 0 = p := by
      rw [show u.length - 1 - v.length = rest.length by omega, ← hv2, List.getD_eq_getElem?_getD, List.getElem?_append_right (by rw [List.length_reverse]; exact Nat.le_refl _), List.length_reverse, Nat.sub_self]
      rfl
    have hfw := hq v.length (by omega)
    rw [hget] at hfw
    obtain ⟨σ1, a1, a2, _, _⟩ := fpx_eq hA hX hb (q := nI v.length) (by rw [nI_toInt (by omega)]; omega)
    have hWv := st_wf hA.1 hA.2.1 v n1
    obtain ⟨l', s', e1, e2⟩ := push_q hA.1 (t0_ok (aY A)) hY hWv hE4 hT (k := p / 4) (d := p % 4) (by omega) (by omega)
    have hP := pu_ok hA.1 (T := T0) hWv (k := p / 4) (d := p % 4) (by omega)
    obtain ⟨b1, b2, _⟩ := ho_bits (h := (pp (aY A) T0 (stW (aY A) (aD A) v) p).2.2) (fun q hq => (hP.2.2 q hq).2) hb
    have ha : anyT (aY A) (pushD (aY A) T0 (stW (aY A) (aD A) v) (p / 4) (p % 4)).2.1 = true := n3
    rw [ha, if_pos rfl] at e1
    obtain ⟨σ2, c1, c2⟩ := ih (p :: v) f σ1 l' s' hv2 (by omega) e2.1 e2.2.2 a2
    refine ⟨σ2, c1, ?_⟩
    have hd1 := (num_d (p := p) (by omega)).1
    have hd2 := (num_d (p := p) (by omega)).2
    have hpr : nI u.length - (1 : Int32) = nI (rest.length + v.length) := by rw [hul, show rest.length + (v.length + 1) = (rest.length + v.length) + 1 by omega, nI_pred]
    show BL_law_579 L xs0 rl191 (FL_law_579 L xs0 rl191 f) σ n y g l s3 A4 A5 (nI (4 * db (aY A))) (nI boy) (nI u.length) (nI v.length) = _
    unfold BL_law_579
    rw [if_neg (nI_ge (by omega) (by omega)), a1, bi_some, hfw, dzI_ok (by decide), dzI_ok (by decide), hd2, hd1, e1, bn_some]
    show (if hoI (pp (aY A) T0 (stW (aY A) (aD A) v) p).2.2 < 0 then _ else _) = _
    rw [if_neg (show ¬ hoI (pp (aY A) T0 (stW (aY A) (aD A) v) p).2.2 < 0 by rw [toInt_lt]; rw [toInt_le] at b1; omega)]
    have sm1 : FL_law_579 L xs0 rl191 f σ1 n y g l s3 l' s' (nI (4 * db (aY A))) (nI boy) (nI u.length) (nI (v.length + 1)) = FL_law_663 L xs0 rl191 σ2 n y g l s3 (nI (4 * db (aY A))) (nI boy) (nI u.length) := c2
    by_cases hr : rest = []
    · have hh := n4.mpr (by rw [hr]; rfl)
      rw [if_pos (b2.mpr hh)]
      unfold FL_law_638
      rw [hpr, if_pos (by rw [hr]; show nI v.length = nI (0 + v.length); rw [Nat.zero_add]), if_pos rfl, nm_eq, nI_1]
      exact sm1
    · have hr' : ¬ rest.reverse = [] := fun z => hr (List.reverse_eq_nil_iff.mp z)
      have hlr : 0 < rest.length := Nat.pos_of_ne_zero fun z => hr (List.eq_nil_of_length_eq_zero z)
      have hne : ¬ nI v.length = nI (rest.length + v.length) := fun z => by
        have := congrArg Int32.toInt z
        rw [nI_toInt (by omega), nI_toInt (by omega)] at this
        omega
      rw [if_neg (fun z => hr' (n4.mp (b2.mp z)))]
      unfold FL_law_638
      rw [hpr, if_neg hne, if_pos rfl, nm_eq, nI_1]
      exact sm1
/-- the found row, push by push -/
theorem t_480 (hw : Lw A y g l (s3 0)) {boy : Nat} (hb : boy < 2) (rl191 : RB) (n : Nat) {len z : Nat} (hl1 : 1 ≤ len) (hl3 : len ≤ 3) (hz : z < (4 * db (aY A)) ^ len) (hq : ∀ q, q < len → fewA A boy (nI q) = nI (num (z / (4 * db (aY A)) ^ (len - 1 - q) % (4 * db (aY A))))) : ∀ (m q fuel : Nat) (σ : Mem) (x12 : Int32), q + m = len → m < fuel → (m = 0 ∨ x12 = nI ((4 * db (aY A)) ^ (m - 1))) → RX A σ → ∃ σ', RX A σ' ∧ FL_law_480 L xs0 rl191 fuel σ n y g l s3 (nI (4 * db (aY A))) (nI boy) (nI len) (nI z) (nI len) x12 (nI q) = FL_law_663 L xs0 rl191 σ' n y g l s3 (nI (4 * db (aY A))) (nI boy) (nI len) := by
  obtain ⟨hA, hY, hE, h3, hd, hdis⟩ := hw
  have h12 : 4 * db (aY A) ≤ 12 := by omega
  have hpz := pw3 (B := 4 * db (aY A)) (n := len) h12 hl3
  have hB : 0 < 4 * db (aY A) := by
    rcases Nat.eq_zero_or_pos (4 * db (aY A)) with q | q
    · rw [q, Nat.zero_pow (by omega)] at hz; omega
    · exact q
  intro m
  induction m with
  | zero =>
    intro q fuel σ x12 hqm hf hx hX
    obtain ⟨f, rfl⟩ : ∃ f, fuel = f + 1 := ⟨fuel - 1, by omega⟩
    refine ⟨σ, hX, ?_⟩
    show BL_law_480 L xs0 rl191 (FL_law_480 L xs0 rl191 f) σ n y g l s3 (nI (4 * db (aY A))) (nI boy) (nI len) (nI z) (nI len) x12 (nI q) = _
    unfold BL_law_480
    rw [if_pos (nI_le (by omega) (by omega)), if_pos (show nI len ≤ (3 : Int32) from nI_le (b := 3) (by omega) (by decide))]
  | succ m ih =>
    intro q fuel σ x12 hqm hf hx hX
    obtain ⟨f, rfl⟩ : ∃ f, fuel = f + 1 := ⟨fuel - 1, by omega⟩
    have hx : x12 = nI ((4 * db (aY A)) ^ m) := by
      rcases hx with w | w
      · omega
      · exact w
    have hpw := pw3 (B := 4 * db (aY A)) (n := m) h12 (by omega)
    have hpos : 0 < (4 * db (aY A)) ^ m := Nat.pow_pos hB
    have hdv : z / (4 * db (aY A)) ^ m ≤ z := Nat.div_le_self _ _
    have hfw := hq q (by omega)
    rw [show len - 1 - q = m by omega] at hfw
    have hp : z / (4 * db (aY A)) ^ m % (4 * db (aY A)) < 4 * db (aY A) := Nat.mod_lt _ hB
    obtain ⟨σ1, a1, a2, _, _⟩ := fpx_eq hA hX hb (q := nI q) (by rw [nI_toInt (by omega)]; omega)
    have key : ∀ v : Int32, (m = 0 ∨ v = nI ((4 * db (aY A)) ^ (m - 1))) → ∃ σ', RX A σ' ∧ FL_law_514 L xs0 rl191 (FL_law_480 L xs0 rl191 f) σ n y g l s3 (nI (4 * db (aY A))) (nI boy) (nI len) (nI z) (nI len) (nI q) (nI (z / (4 * db (aY A)) ^ m % (4 * db (aY A)))) v = FL_law_663 L xs0 rl191 σ' n y g l s3 (nI (4 * db (aY A))) (nI boy) (nI len) := by
      intro v hv
      obtain ⟨σ2, c1, c2⟩ := ih (q + 1) f σ1 v (by omega) (by omega) hv a2
      refine ⟨σ2, c1, ?_⟩
      unfold FL_law_514
      rw [a1, bi_some, hfw, dzI_ok (by decide), dzI_ok (by decide), if_pos (num_I (by omega)).symm, nm_eq, nI_1]
      exact c2
    have un : FL_law_480 L xs0 rl191 (f + 1) σ n y g l s3 (nI (4 * db (aY A))) (nI boy) (nI len) (nI z) (nI len) x12 (nI q) = if nI ((4 * db (aY A)) ^ m / (4 * db (aY A))) ≤ 0 then FL_law_514 L xs0 rl191 (FL_law_480 L xs0 rl191 f) σ n y g l s3 (nI (4 * db (aY A))) (nI boy) (nI len) (nI z) (nI len) (nI q) (nI (z / (4 * db (aY A)) ^ m % (4 * db (aY A)))) 1 else FL_law_514 L xs0 rl191 (FL_law_480 L xs0 rl191 f) σ n y g l s3 (nI (4 * db (aY A))) (nI boy) (nI len) (nI z) (nI len) (nI q) (nI (z / (4 * db (aY A)) ^ m % (4 * db (aY A)))) (nI ((4 * db (aY A)) ^ m / (4 * db (aY A)))) := by
      show BL_law_480 L xs0 rl191 (FL_law_480 L xs0 rl191 f) σ n y g l s3 (nI (4 * db (aY A))) (nI boy) (nI len) (nI z) (nI len) x12 (nI q) = _
      unfold BL_law_480
      rw [if_neg (nI_ge (by omega) (by omega)), hx, dzI_ok (nI_ne0 (by omega) (by omega)), dzI_ok (nI_ne0 (by omega) (by omega)), pk_div (by omega) (by omega) (by omega), pk_md (by omega) (by omega) (by omega), nm_eq, dzI_ok (nI_ne0 (by omega) (by omega)), pk_div (by omega) (by omega) (by omega), dzI_ok (nI_ne0 (by omega) (by omega))]
    rw [un]
    cases m with
    | zero =>
      rw [Nat.pow_zero, if_pos (show nI (1 / (4 * db (aY A))) ≤ 0 by rw [Nat.div_eq_of_lt (by omega)]; decide)]
      rw [Nat.pow_zero] at key
      exact key 1 (.inl rfl)
    | succ m =>
      have e : (4 * db (aY A)) ^ (m + 1) / (4 * db (aY A)) = (4 * db (aY A)) ^ m := by rw [Nat.pow_succ, Nat.mul_div_cancel _ hB]
      have hpos' : 0 < (4 * db (aY A)) ^ m := Nat.pow_pos hB
      have hpw' := pw3 (B := 4 * db (aY A)) (n := m) h12 (by omega)
      rw [e, if_neg (nI_nle hpos' (by omega))]
      exact key _ (.inr (by rw [Nat.add_sub_cancel]))
end LH

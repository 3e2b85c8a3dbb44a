/-! ===== fewest: the reference's codes ===== -/
def ck (Y : Yd) (D : Dy) (k : Nat) : Nat := if k < db Y then D.1 k else pad Y
def itsN (Y : Yd) (D : Dy) : Nat → Nat
  | 0 => 0
  | k + 1 => itsN Y D k * 64 + ck Y D k
def setF (Y : Yd) (D : Dy) (j : Nat) : Bool := decide (j < (crs Y).length) && D.2 ((crs Y).getD j 0)
def setN (Y : Yd) (D : Dy) : Nat := sumB (setF Y D) 4
def codeN (Y : Yd) (D : Dy) : Nat := itsN Y D 6 * 16 + setN Y D
theorem ck_lt {Y : Yd} (hY : WFY Y) {D : Dy} (hD : WFD Y D) (k : Nat) : ck Y D k < 39 := by
  unfold ck
  by_cases h : k < db Y
  · rw [if_pos h]; exact wfd_lt hY hD h
  · rw [if_neg h]
    unfold pad
    by_cases h0 : dh Y = 0
    · rw [if_pos h0]; omega
    · rw [if_neg h0]; omega
theorem plM_ck (Y : Yd) (D : Dy) (k : Nat) : plM Y D k = lieI (ck Y D k) := rfl
theorem its_lt {Y : Yd} (hY : WFY Y) {D : Dy} (hD : WFD Y D) : ∀ k, itsN Y D k < 64 ^ k := by
  intro k
  induction k with
  | zero => exact Nat.one_pos
  | succ k ih =>
    unfold itsN
    have := ck_lt hY hD k
    rw [Nat.pow_succ]
    omega
theorem its6 {Y : Yd} (hY : WFY Y) {D : Dy} (hD : WFD Y D) {k : Nat} (hk : k ≤ 6) : itsN Y D k < 2 ^ 36 := by
  have := its_lt hY hD k
  have h2 : 64 ^ k ≤ 64 ^ 6 := Nat.pow_le_pow_right (by decide) hk
  have h3 : (64 : Nat) ^ 6 = 2 ^ 36 := by decide
  omega
theorem set_lt (Y : Yd) (D : Dy) : setN Y D < 16 := sum_lt _ 4
theorem code_lt {Y : Yd} (hY : WFY Y) {D : Dy} (hD : WFD Y D) : codeN Y D < 2 ^ 40 := by
  have := its6 hY hD (Nat.le_refl 6)
  have := set_lt Y D
  unfold codeN
  omega
theorem cof_eq (τ : Mem) {p : Nat} (hp : p < 39) : FX9_codeOf τ (lieI p) = some (nI p, τ) := by
  have h := (by decide +kernel : ∀ p, p < 39 → (if lieI p < 0 then (if lieI p = (-6 : Int32) then (36 : Int32) else if lieI p = (-20 : Int32) then (37 : Int32) else (38 : Int32)) else lieI p) = nI p) p hp
  unfold FX9_codeOf
  rw [← h]
  by_cases h0 : lieI p < 0
  · rw [if_pos h0, if_pos h0]
    by_cases h1 : lieI p = (-6 : Int32)
    · rw [if_pos h1, if_pos h1]
    · rw [if_neg h1, if_neg h1]
      by_cases h2 : lieI p = (-20 : Int32)
      · rw [if_pos h2, if_pos h2]
      · rw [if_neg h2, if_neg h2]
  · rw [if_neg h0, if_neg h0]
/-- how many cracks lie ahead of a cell -/
def cn (Y : Yd) (c : Nat) : Nat := cnt (fun c => dg Y c == 3) c
theorem cn_len (Y : Yd) : cn Y (dn Y) = (crs Y).length := by unfold cn crs; rw [cnt_fil]
theorem fil_ix {p : Nat → Bool} : ∀ {n c : Nat}, c < n → p c = true → cnt p c < ((List.range n).filter p).length ∧ ((List.range n).filter p).getD (cnt p c) 0 = c := by
  intro n
  induction n with
  | zero => intro c hc; omega
  | succ n ih =>
    intro c hc hp
    rw [List.range_succ, List.filter_append]
    by_cases e : c = n
    · subst e
      have hl := cnt_fil p c
      rw [← hl]
      have h1 : List.filter p [c] = [c] := by simp [hp]
      rw [h1]
      constructor
      · rw [List.length_append]; simp
      · rw [List.getD_eq_getElem?_getD, List.getElem?_append_right (Nat.le_refl _), Nat.sub_self]
        rfl
    · obtain ⟨h1, h2⟩ := ih (c := c) (by omega) hp
      constructor
      · rw [List.length_append]; omega
      · rw [List.getD_eq_getElem?_getD, List.getElem?_append_left h1, ← List.getD_eq_getElem?_getD]
        exact h2
theorem crs_ix {Y : Yd} {c : Nat} (hc : c < dn Y) (h3 : dg Y c = 3) : cn Y c < (crs Y).length ∧ (crs Y).getD (cn Y c) 0 = c := fil_ix (p := fun c => dg Y c == 3) hc (by simp [h3])
theorem cn_s (Y : Yd) (c : Nat) : cn Y (c + 1) = cn Y c + if dg Y c = 3 then 1 else 0 := by
  show cnt _ c + (if (dg Y c == 3) then 1 else 0) = _
  by_cases h : dg Y c = 3
  · rw [if_pos h, if_pos (by simp [h])]; rfl
  · rw [if_neg h, if_neg (by simp [h])]; rfl
theorem cn_le (Y : Yd) {c : Nat} (hc : c ≤ dn Y) : cn Y c ≤ (crs Y).length := by
  rw [← cn_len]
  obtain ⟨k, hk⟩ : ∃ k, dn Y = c + k := ⟨dn Y - c, by omega⟩
  rw [hk]
  clear hk hc
  induction k with
  | zero => exact Nat.le_refl _
  | succ k ih =>
    rw [← Nat.add_assoc, cn_s]
    omega
theorem ite_shl (b : Bool) {j : Nat} (hj : j < 64) (q : Nat) : bit64 ((if b then (1 : Int64) else 0) <<< ((nI j).toInt64 &&& 63)) q = (b && decide (q = j)) := by
  cases b
  · rw [if_neg (by decide), w_shl _ hj, w_0]; simp
  · rw [if_pos rfl, w_one hj]; simp
theorem yn_42 {Y : Yd} (hY : WFY Y) {D : Dy} {τ : Mem} (hM : MS' Y τ) (hf : ∀ i, bit64 (τ.2 0 8) i = filM Y D i) (its : Nat) : ∀ (m c fuel : Nat) (s : Int64), c + m = dn Y → m < fuel → (∀ q, bit64 s q = (decide (q < cn Y c) && D.2 ((crs Y).getD q 0))) → FX9_yardNow_42 fuel τ (lN its) (nI (cn Y c)) s (nI c) = some (lN (its * 16 + setN Y D), τ) := by
  have h36 := dn_le hY
  have h4 := hY.2.2.2.1
  intro m
  induction m with
  | zero =>
    intro c fuel s hc hfu hs
    obtain ⟨f, rfl⟩ : ∃ f, fuel = f + 1 := ⟨fuel - 1, by omega⟩
    show BX9_yardNow_42 (FX9_yardNow_42 f) τ _ _ s (nI c) = _
    unfold BX9_yardNow_42
    have e : s = lN (setN Y D) := w_ext fun q hq => by
      rw [hs, lN_bit, decide_eq_true hq, Bool.true_and]
      unfold setN
      rw [sum_bit, show c = dn Y by omega, cn_len]
      unfold setF
      by_cases h : q < (crs Y).length
      · rw [decide_eq_true h, decide_eq_true (show q < 4 by omega)]; simp
      · rw [decide_eq_false h]; simp
    rw [cem_eq hM, bi_some, if_pos (nI_le (by omega) (by omega)), e, show (16 : Int64) = lN 16 from rfl, lN_mul, lN_add]
  | succ m ih =>
    intro c fuel s hc hfu hs
    obtain ⟨f, rfl⟩ : ∃ f, fuel = f + 1 := ⟨fuel - 1, by omega⟩
    show BX9_yardNow_42 (FX9_yardNow_42 f) τ _ _ s (nI c) = _
    have hc2 : c < dn Y := by omega
    have h5 := hY.2.2.1 c hc2
    have hcs := cn_s Y c
    unfold BX9_yardNow_42
    rw [cem_eq hM, bi_some, if_neg (nI_ge (by omega) (by omega)), rd_in (by omega) (by decide), hM.2.2.2.1 c hc2]
    by_cases h3 : dg Y c = 3
    · obtain ⟨i1, i2⟩ := crs_ix hc2 h3
      rw [if_pos h3] at hcs
      rw [h3, if_pos (show nI 3 = (3 : Int32) from rfl), nm_eq, nm_eq, nm_eq, nI_1, nI_1, ← hcs]
      refine ih (c + 1) f _ (by omega) (by omega) fun q => ?_
      have hfc : bit64 (τ.2 0 8) c = D.2 c := by
        rw [hf]
        unfold filM
        rw [decide_eq_true hc2, h3]; rfl
      rw [w_or, hs, hs1_eq _ (by omega), hfc, ite_shl _ (by omega), hcs]
      by_cases e : q = cn Y c
      · subst e
        rw [i2, decide_eq_false (Nat.lt_irrefl _), decide_eq_true (Nat.lt_succ_self _)]; simp
      · rw [decide_eq_false e]
        by_cases h : q < cn Y c
        · rw [decide_eq_true h, decide_eq_true (by omega)]; simp
        · rw [decide_eq_false h, decide_eq_false (by omega)]; simp
    · rw [if_neg h3] at hcs
      rw [if_neg (show ¬ nI (dg Y c) = (3 : Int32) from fun q => h3 ((nI_eq (b := 3) (by omega) (by decide)).mp q)), nm_eq, nI_1]
      have := ih (c + 1) f s (by omega) (by omega) (fun q => by rw [hs, hcs, Nat.add_zero])
      rw [hcs, Nat.add_zero] at this
      exact this
theorem yn_4 {Y : Yd} (hY : WFY Y) {D : Dy} (hD : WFD Y D) {τ : Mem} (hM : MS' Y τ) (hE : EncM Y D (τ.1 4) (τ.2 0 8)) : ∀ (m k fuel : Nat), k + m = 6 → m < fuel → FX9_yardNow_4 fuel τ (lN (itsN Y D k)) (nI k) = some (lN (codeN Y D), τ) := by
  have h36 := dn_le hY
  intro m
  induction m with
  | zero =>
    intro k fuel hk hf
    obtain ⟨f, rfl⟩ : ∃ f, fuel = f + 1 := ⟨fuel - 1, by omega⟩
    show BX9_yardNow_4 (FX9_yardNow_4 f) τ _ (nI k) = _
    unfold BX9_yardNow_4
    rw [if_pos (show (6 : Int32) ≤ nI k from nI_le (a := 6) (by omega) (by omega)), show k = 6 by omega]
    exact yn_42 hY hM hE.2 (itsN Y D 6) (dn Y) 0 FU 0 (Nat.zero_add _) (by show _ < 10000000; omega) (fun q => by
      rw [w_0]
      show false = (decide (q < 0) && _)
      rw [decide_eq_false (Nat.not_lt_zero q), Bool.false_and])
  | succ m ih =>
    intro k fuel hk hf
    obtain ⟨f, rfl⟩ : ∃ f, fuel = f + 1 := ⟨fuel - 1, by omega⟩
    show BX9_yardNow_4 (FX9_yardNow_4 f) τ _ (nI k) = _
    unfold BX9_yardNow_4
    have hlt := ck_lt hY hD k
    rw [if_neg (show ¬ (6 : Int32) ≤ nI k from nI_ge (b := 6) (by omega) (by decide)), rd_in (by omega) (by decide), hE.1 k (by omega), plM_ck, cof_eq τ hlt, bi_some, nm_eq, nm_eq, nI_1, nI_l (by omega), show (64 : Int64) = lN 64 from rfl, lN_mul, lN_add]
    exact ih (k + 1) f (by omega) (by omega)
theorem yn_eq {Y : Yd} (hY : WFY Y) {D : Dy} (hD : WFD Y D) {τ : Mem} (hM : MS' Y τ) (hE : EncM Y D (τ.1 4) (τ.2 0 8)) : FX9_yardNow τ = some (lN (codeN Y D), τ) := yn_4 hY hD hM hE 6 0 FU rfl (by show 6 < 10000000; omega)
theorem ly_100 {Y : Yd} (hY : WFY Y) {D : Dy} : ∀ (m c fuel : Nat) (τ : Mem), c + m = dn Y → m < fuel → MS' Y τ → (∀ q, bit64 (τ.2 0 8) q = (decide (q < c) && filM Y D q)) → ∃ τ', FX9_layYard_100 fuel τ (lN (setN Y D)) (nI (cn Y c)) (nI c) = some τ' ∧ τ'.1 = τ.1 ∧ (∀ o, o ≠ 0 → τ'.2 o = τ.2 o) ∧ (∀ q, q ≠ 8 → τ'.2 0 q = τ.2 0 q) ∧ ∀ q, bit64 (τ'.2 0 8) q = filM Y D q := by
  have h36 := dn_le hY
  have h4 := hY.2.2.2.1
  intro m
  induction m with
  | zero =>
    intro c fuel τ hc hfu hM hs
    obtain ⟨f, rfl⟩ : ∃ f, fuel = f + 1 := ⟨fuel - 1, by omega⟩
    refine ⟨τ, ?_, rfl, fun _ _ => rfl, fun _ _ => rfl, fun q => ?_⟩
    · show BX9_layYard_100 (FX9_layYard_100 f) τ _ _ (nI c) = _
      unfold BX9_layYard_100
      rw [cem_eq hM, bi_some, if_pos (nI_le (by omega) (by omega))]
    · rw [hs, show c = dn Y by omega]
      unfold filM
      cases h : decide (q < dn Y) <;> simp
  | succ m ih =>
    intro c fuel τ hc hfu hM hs
    obtain ⟨f, rfl⟩ : ∃ f, fuel = f + 1 := ⟨fuel - 1, by omega⟩
    have un : FX9_layYard_100 (f + 1) τ (lN (setN Y D)) (nI (cn Y c)) (nI c) = BX9_layYard_100 (FX9_layYard_100 f) τ (lN (setN Y D)) (nI (cn Y c)) (nI c) := rfl
    rw [un]
    have hc2 : c < dn Y := by omega
    have h5 := hY.2.2.1 c hc2
    have hcs := cn_s Y c
    unfold BX9_layYard_100
    rw [cem_eq hM, bi_some, if_neg (nI_ge (by omega) (by omega)), rd_in (by omega) (by decide), hM.2.2.2.1 c hc2]
    by_cases h3 : dg Y c = 3
    · obtain ⟨i1, i2⟩ := crs_ix hc2 h3
      rw [if_pos h3] at hcs
      rw [h3, if_pos (show nI 3 = (3 : Int32) from rfl), nm_eq, nm_eq, nm_eq, nI_1, nI_1, ← hcs]
      have hset : bit64 (lN (setN Y D)) (cn Y c) = D.2 c := by
        rw [lN_bit, decide_eq_true (by omega), Bool.true_and]
        unfold setN
        rw [sum_bit, decide_eq_true (by omega), Bool.true_and]
        unfold setF
        rw [decide_eq_true i1, Bool.true_and, i2]
      obtain ⟨τ', r1, r2, r3, r4, r5⟩ := ih (c + 1) f (setL τ 0 8 ((τ.2 0 8) ||| ((((lN (setN Y D)) >>> ((nI (cn Y c)).toInt64 &&& 63)) &&& (1 : Int64)) <<< ((nI c).toInt64 &&& 63)))) (by omega) (by omega) hM (fun q => by
        rw [setL2, w_or, hs, hs1_eq _ (by omega), hset, ite_shl _ (by omega)]
        by_cases e : q = c
        · subst e
          rw [decide_eq_false (Nat.lt_irrefl _), decide_eq_true (Nat.lt_succ_self _)]
          unfold filM
          rw [decide_eq_true hc2, h3]; simp
        · rw [decide_eq_false e]
          by_cases h : q < c
          · rw [decide_eq_true h, decide_eq_true (by omega)]; simp
          · rw [decide_eq_false h, decide_eq_false (by omega)]; simp)
      refine ⟨τ', r1, r2, fun o ho => by rw [r3 o ho, setL_ne2 ho], fun q hq => ?_, r5⟩
      rw [r4 q hq]
      show vp_updL (τ.2 0) 8 _ q = _
      simp only [vp_updL, if_neg hq]
    · rw [if_neg h3] at hcs
      replace hcs : cn Y (c + 1) = cn Y c := hcs
      rw [if_neg (show ¬ nI (dg Y c) = (3 : Int32) from fun q => h3 ((nI_eq (b := 3) (by omega) (by decide)).mp q)), nm_eq, nI_1, ← hcs]
      refine ih (c + 1) f τ (by omega) (by omega) hM fun q => ?_
      rw [hs]
      by_cases e : q = c
      · subst e
        rw [decide_eq_false (Nat.lt_irrefl _), decide_eq_true (Nat.lt_succ_self _)]
        unfold filM
        rw [beq_false_of_ne h3]; simp
      · by_cases h : q < c
        · rw [decide_eq_true h, decide_eq_true (by omega)]
        · rw [decide_eq_false h, decide_eq_false (by omega)]
def x7I (m : Nat) : Int32 := match m with
  | 0 => -1
  | m + 1 => nI m
theorem x7_s (m : Nat) : nI m + (-1) = x7I m := by
  cases m with
  | zero => decide
  | succ m => exact pk_m1 m
theorem ly_16 {Y : Yd} (hY : WFY Y) {D : Dy} (hD : WFD Y D) : ∀ (m fuel : Nat) (τ : Mem), m ≤ 6 → m < fuel → MS' Y τ → (∀ k, m ≤ k → k < 6 → τ.1 4 k = plM Y D k) → ∃ τ', FX9_layYard_16 fuel τ (lN (setN Y D)) (lN (itsN Y D m)) (x7I m) = some τ' ∧ (∀ o, o ≠ 4 → τ'.1 o = τ.1 o) ∧ (∀ o, o ≠ 0 → τ'.2 o = τ.2 o) ∧ (∀ q, q ≠ 8 → τ'.2 0 q = τ.2 0 q) ∧ EncM Y D (τ'.1 4) (τ'.2 0 8) := by
  have h36 := dn_le hY
  intro m
  induction m with
  | zero =>
    intro fuel τ hm hf hM hl
    obtain ⟨f, rfl⟩ : ∃ f, fuel = f + 1 := ⟨fuel - 1, by omega⟩
    obtain ⟨τ', r1, r2, r3, r4, r5⟩ := ly_100 hY (D := D) (dn Y) 0 FU (setL τ 0 8 0) (Nat.zero_add _) (by show _ < 10000000; omega) hM (fun q => by
      rw [setL2, w_0, decide_eq_false (Nat.not_lt_zero q), Bool.false_and])
    refine ⟨τ', ?_, fun o _ => by rw [r2]; rfl, fun o ho => by rw [r3 o ho, setL_ne2 ho], fun q hq => ?_, ⟨fun k hk => ?_, r5⟩⟩
    · show BX9_layYard_16 (FX9_layYard_16 f) τ _ _ (-1) = _
      unfold BX9_layYard_16
      rw [if_pos (by decide), nm_eq]
      exact r1
    · rw [r4 q hq]
      show vp_updL (τ.2 0) 8 0 q = _
      simp only [vp_updL, if_neg hq]
    · rw [r2]
      exact hl k (Nat.zero_le _) hk
  | succ m ih =>
    intro fuel τ hm hf hM hl
    obtain ⟨f, rfl⟩ : ∃ f, fuel = f + 1 := ⟨fuel - 1, by omega⟩
    have hlt := ck_lt hY hD m
    have hi6 := its6 hY hD hm
    have hmod : itsN Y D (m + 1) % 64 = ck Y D m := by show (itsN Y D m * 64 + ck Y D m) % 64 = _; omega
    have hdiv : itsN Y D (m + 1) / 64 = itsN Y D m := by show (itsN Y D m * 64 + ck Y D m) / 64 = _; omega
    obtain ⟨τ', r1, r2, r3, r4, r5⟩ := ih f (setI τ 4 m (lieI (ck Y D m))) (by omega) (by omega) hM (fun k h1 h2 => by
      rw [setI_s1]
      by_cases e : k = m
      · subst e; simp only [upd, if_true]; exact (plM_ck Y D k).symm
      · simp only [upd, if_neg e]; exact hl k (by omega) h2)
    refine ⟨τ', ?_, fun o ho => by rw [r2 o ho, setI_ne1 ho], r3, r4, r5⟩
    rw [← r1]
    show BX9_layYard_16 (FX9_layYard_16 f) τ _ _ (nI m) = _
    unfold BX9_layYard_16 dzL
    rw [if_neg (nI_pos (by omega)), if_neg (show ¬ (64 : Int64) = 0 by decide), show (64 : Int64) = lN 64 from rfl, pk_lRem (by omega) (by decide) (by decide), pk_lDiv (by omega) (by decide) (by decide), hmod, hdiv, lN_i, nm_eq, if_neg (show ¬ lN 64 = 0 by decide), nm_eq]
    have hst : ∀ v : Int32, (stI τ 4 6 (nI m) v fun σ => nm (nI m + (-1 : Int32)) fun x => FX9_layYard_16 f σ (lN (setN Y D)) (lN (itsN Y D m)) x) = FX9_layYard_16 f (setI τ 4 m v) (lN (setN Y D)) (lN (itsN Y D m)) (x7I m) := fun v => by
      rw [stI_in (by omega) (by decide), nm_eq, x7_s]
    rw [hst, hst, hst, hst]
    generalize ck Y D m = p at hlt
    by_cases h1 : (36 : Int32) ≤ nI p
    · have hp : 36 ≤ p := by
        rcases Nat.lt_or_ge p 36 with z | z
        · exact absurd h1 (nI_ge (b := 36) z (by decide))
        · exact z
      rw [if_pos h1]
      rcases (show p = 36 ∨ p = 37 ∨ p = 38 by omega) with rfl | rfl | rfl
      · rfl
      · rfl
      · rfl
    · have hp : p < 36 := by
        rcases Nat.lt_or_ge p 36 with z | z
        · exact z
        · exact absurd (show (36 : Int32) ≤ nI p from nI_le (a := 36) z (by omega)) h1
      rw [if_neg h1, lie_in hp]
theorem ly_eq {Y : Yd} (hY : WFY Y) {D : Dy} (hD : WFD Y D) {τ : Mem} (hM : MS' Y τ) : ∃ τ', FX9_layYard τ (lN (codeN Y D)) = some τ' ∧ (∀ o, o ≠ 4 → τ'.1 o = τ.1 o) ∧ (∀ o, o ≠ 0 → τ'.2 o = τ.2 o) ∧ (∀ q, q ≠ 8 → τ'.2 0 q = τ.2 0 q) ∧ EncM Y D (τ'.1 4) (τ'.2 0 8) := by
  have h1 := code_lt hY hD
  have h2 := set_lt Y D
  obtain ⟨τ', r1, r2⟩ := ly_16 hY hD 6 FU τ (Nat.le_refl _) (by show 6 < 10000000; omega) hM (fun k h1 h2 => by omega)
  refine ⟨τ', ?_, r2⟩
  unfold FX9_layYard dzL
  rw [if_neg (show ¬ (16 : Int64) = 0 by decide), show (16 : Int64) = lN 16 from rfl, pk_lRem (by omega) (by decide) (by decide), pk_lDiv (by omega) (by decide) (by decide), nm_eq, if_neg (show ¬ lN 16 = 0 by decide), nm_eq, show codeN Y D % 16 = setN Y D by unfold codeN; omega, show codeN Y D / 16 = itsN Y D 6 by unfold codeN; omega]
  exact r1
/-- a code tells the yard -/
theorem code_inj {Y : Yd} (hY : WFY Y) {D D' : Dy} (hD : WFD Y D) (hD' : WFD Y D') : codeN Y D = codeN Y D' ↔ EqD Y D D' := by
  have s1 := set_lt Y D
  have s2 := set_lt Y D'
  have h4 := hY.2.2.2.1
  have h6 := hY.2.1
  constructor
  · intro e
    have e1 : setN Y D = setN Y D' := by unfold codeN at e; omega
    have e2 : itsN Y D 6 = itsN Y D' 6 := by unfold codeN at e; omega
    have hk : ∀ m, m ≤ 6 → itsN Y D m = itsN Y D' m → ∀ k, k < m → ck Y D k = ck Y D' k := by
      intro m
      induction m with
      | zero => intro _ _ k hk; omega
      | succ m ih =>
        intro hm he k hk
        have l1 := ck_lt hY hD m
        have l2 := ck_lt hY hD' m
        have he' : itsN Y D m * 64 + ck Y D m = itsN Y D' m * 64 + ck Y D' m := he
        by_cases q : k = m
        · subst q; omega
        · exact ih (by omega) (by omega) k (by omega)
    refine ⟨fun k hkb => ?_, fun c hc h3 => ?_⟩
    · have := hk 6 (Nat.le_refl _) e2 k (by omega)
      unfold ck at this
      rw [if_pos hkb, if_pos hkb] at this
      exact this
    · obtain ⟨j, hj, rfl⟩ := crs_of hc h3
      have b1 := sum_bit (setF Y D) 4 j
      have b2 := sum_bit (setF Y D') 4 j
      change (setN Y D).testBit j = _ at b1
      change (setN Y D').testBit j = _ at b2
      rw [e1, b2, decide_eq_true (by omega), Bool.true_and, Bool.true_and] at b1
      unfold setF at b1
      rw [decide_eq_true hj, Bool.true_and, Bool.true_and] at b1
      exact b1.symm
  · intro e
    have hck : ∀ k, ck Y D k = ck Y D' k := fun k => by
      unfold ck
      by_cases q : k < db Y
      · rw [if_pos q, if_pos q, e.1 k q]
      · rw [if_neg q, if_neg q]
    have hi : ∀ m, itsN Y D m = itsN Y D' m := by
      intro m
      induction m with
      | zero => rfl
      | succ m ih => unfold itsN; rw [ih, hck]
    have hs : ∀ n, sumB (setF Y D) n = sumB (setF Y D') n := by
      intro n
      induction n with
      | zero => rfl
      | succ n ih =>
        unfold sumB
        rw [ih]
        congr 2
        unfold setF
        by_cases q : n < (crs Y).length
        · have := crs_at q
          rw [e.2 _ this.1 this.2]
        · rw [decide_eq_false q]; simp
    unfold codeN setN
    rw [hi, hs]

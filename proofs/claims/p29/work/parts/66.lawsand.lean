/-! ===== the law's sand ===== -/
theorem lie_inj {p q : Nat} (hp : p < 39) (hq : q < 39) : lieI p = lieI q ↔ p = q :=
  (by decide +kernel : ∀ p, p < 39 → ∀ q, q < 39 → (lieI p = lieI q ↔ p = q)) p hp q hq
theorem l20 {g : Nat} (hg : g < 2) : (-20 : Int32) - nI g = lieI (37 + g) :=
  (by decide +kernel : ∀ g, g < 2 → (-20 : Int32) - nI g = lieI (37 + g)) g hg
section LS
variable {L : Nat} {xs0 : Nat → Int32} {A : As} {y g l : Nat → Int32} {s3 : Nat → Int64}
/-- does a push with more sand bring the block home -/
def hmB (A : As) (T : Nat → Bool) (k gt : Nat) (i m : Nat) : Bool := decide ((aD A).1 k < 36) && anyF (bhF (aY A) T k gt 0 (aD A)) i m
theorem t_1642 (hw : Lw A y g l (s3 0)) {T : Nat → Bool} (hT : TOk (aY A) T) {x19 x20 : Int32} (hv : ∀ i, bit64 (if 0 ≤ x19 then (((1 : Int64) <<< ((x19).toInt64 &&& 63)) ||| ((1 : Int64) <<< ((x20).toInt64 &&& 63))) else 0) i = T i) {k gt : Nat} (hk : k < db (aY A)) (hg : gt < 2) (rl1488 : Mem → Nat → (Nat → Int32) → (Nat → Int32) → (Nat → Int32) → (Nat → Int64) → Int32 → Int32 → Option (Int32)) (rl1533 : Mem → Nat → (Nat → Int32) → (Nat → Int32) → (Nat → Int32) → (Nat → Int64) → Int32 → Int32 → Int32 → Int32 → Int32 → Int32 → Int32 → Int32 → Option (Int32)) (rl1558 : Mem → Nat → (Nat → Int32) → (Nat → Int32) → (Nat → Int32) → (Nat → Int64) → Int32 → Int32 → Int32 → Int32 → Int32 → Int32 → Int32 → Int32 → Int32 → Option (Int32)) (σ : Mem) (x15 x17 x18 x22 : Int32) : ∀ (m i fuel n : Nat) (h : Bool), i + m = 4 * db (aY A) → m < fuel → n + 2 * m ≤ 600000 → ∃ n', n' ≤ n + 2 * m ∧ FL_law_1642 L xs0 rl1488 rl1533 rl1558 fuel σ n y g l s3 (nI (4 * db (aY A))) (nI k) (nI gt) x15 (-9) x17 x18 x19 x20 1 x22 (bI h) (nI i) = FL_law_1767 L xs0 rl1488 rl1533 rl1558 σ n' y g l s3 (nI (4 * db (aY A))) (nI k) (nI gt) x15 (-9) x17 x18 x19 x20 x22 (bI (h || hmB A T k gt i m)) := by
  obtain ⟨hA, hY, hE, h3, hd, hdis⟩ := hw
  have h6 := hA.1.2.1
  intro m
  induction m with
  | zero =>
    intro i fuel n h hi hf hn
    obtain ⟨f, rfl⟩ : ∃ f, fuel = f + 1 := ⟨fuel - 1, by omega⟩
    refine ⟨n, by omega, ?_⟩
    show BL_law_1642 L xs0 rl1488 rl1533 rl1558 (FL_law_1642 L xs0 rl1488 rl1533 rl1558 f) σ n y g l s3 (nI (4 * db (aY A))) (nI k) (nI gt) x15 (-9) x17 x18 x19 x20 1 x22 (bI h) (nI i) = _
    unfold BL_law_1642
    rw [if_pos (nI_le (by omega) (by omega)), show hmB A T k gt i 0 = false from Bool.and_false _, Bool.or_false]
  | succ m ih =>
    intro i fuel n h hi hf hn
    obtain ⟨f, rfl⟩ : ∃ f, fuel = f + 1 := ⟨fuel - 1, by omega⟩
    obtain ⟨n', hn', hgo⟩ := ih (i + 1) f (n + 2) (h || (decide ((aD A).1 k < 36) && bhF (aY A) T k gt 0 (aD A) i)) (by omega) (by omega) (by omega)
    refine ⟨n', by omega, ?_⟩
    have hb : (h || hmB A T k gt i (m + 1)) = ((h || (decide ((aD A).1 k < 36) && bhF (aY A) T k gt 0 (aD A) i)) || hmB A T k gt (i + 1) m) := by
      unfold hmB
      rw [show anyF (bhF (aY A) T k gt 0 (aD A)) i (m + 1) = (bhF (aY A) T k gt 0 (aD A) i || anyF (bhF (aY A) T k gt 0 (aD A)) (i + 1) m) from rfl, Bool.and_or_distrib_left, Bool.or_assoc]
    rw [hb, ← hgo]
    show BL_law_1642 L xs0 rl1488 rl1533 rl1558 (FL_law_1642 L xs0 rl1488 rl1533 rl1558 f) σ n y g l s3 (nI (4 * db (aY A))) (nI k) (nI gt) x15 (-9) x17 x18 x19 x20 1 x22 (bI h) (nI i) = _
    unfold BL_law_1642
    rw [if_neg (nI_ge (by omega) (by omega)), if_neg (show ¬ (1 : Int32) = 0 by decide), if_pos (show (-9 : Int32) < 0 by decide)]
    obtain ⟨o, c1, c2⟩ := copied_q l
    unfold FL_law_1666
    rw [c1, bn_some, al_in (by omega), al_in (by omega), rd0 (by decide) (by decide), stB0 (by decide) (by decide)]
    have key : ∀ v2 : Int64, (∀ i, bit64 v2 i = T i) → FL_law_1707 L xs0 rl1488 rl1533 rl1558 (FL_law_1642 L xs0 rl1488 rl1533 rl1558 f) σ (n + 1 + 1) y g l s3 o (vp_updL zL 0 (s3 0)) (nI (4 * db (aY A))) (nI k) (nI gt) x15 (-9) x17 x18 x19 x20 1 x22 (bI h) (nI i) v2 2 = FL_law_1642 L xs0 rl1488 rl1533 rl1558 f σ (n + 2) y g l s3 (nI (4 * db (aY A))) (nI k) (nI gt) x15 (-9) x17 x18 x19 x20 1 x22 (bI (h || (decide ((aD A).1 k < 36) && bhF (aY A) T k gt 0 (aD A) i))) (nI (i + 1)) := by
      intro v2 hv2
      unfold FL_law_1707
      rw [stB2 (by decide) (by decide)]
      cases h
      · rw [if_pos (show bI false = 0 from rfl), rd_in (by omega) (by decide), hE.1 k (by omega), plM_in hk, Bool.false_or]
        have hlt := wfd_lt hA.1 hA.2.1 hk
        by_cases hl : (aD A).1 k < 36
        · rw [if_neg (fun z => by have := (lie_neg hlt).1.mp z; omega), dzI_ok (by decide), dzI_ok (by decide), decide_eq_true hl, Bool.true_and]
          obtain ⟨l', s', e1, e2⟩ := push_q hA.1 hT hY hA.2.1 (l := o) (s := vp_updL (vp_updL zL 0 (s3 0)) 2 v2) (by rw [uL_ne (by decide), z0]; exact encM_l hE c2) (fun i => by rw [uL_eq]; exact hv2 i) (k := i / 4) (d := i % 4) (by omega) (by omega)
          have hP := pu_ok hA.1 (T := T) hA.2.1 (k := i / 4) (d := i % 4) (by omega)
          rw [m4 (by omega), d4 (by omega), e1, bn_some]
          have hbh : bhF (aY A) T k gt 0 (aD A) i = (anyT (aY A) (pushD (aY A) T (aD A) (i / 4) (i % 4)).2.1 && decide ((pushD (aY A) T (aD A) (i / 4) (i % 4)).2.2 = some (k, gt))) := by
            show (_ && (_ || false)) = _
            rw [Bool.or_false]
          rw [hbh]
          cases ha : anyT (aY A) (pushD (aY A) T (aD A) (i / 4) (i % 4)).2.1
          · rw [if_neg (show ¬ false = true by decide), if_pos (show (-1 : Int32) < 0 by decide), nm_eq, nI_1, Bool.false_and]
            rfl
          · have hho := (ho_bits (h := (pushD (aY A) T (aD A) (i / 4) (i % 4)).2.2) (fun q hq => (hP.2.2 q hq).2) hg).1
            have hl' : l' k = lieI ((pushD (aY A) T (aD A) (i / 4) (i % 4)).1.1 k) := by rw [e2.1.1 k (by omega), plM_in hk]
            rw [if_pos rfl, if_neg (show ¬ hoI (pushD (aY A) T (aD A) (i / 4) (i % 4)).2.2 < 0 by rw [toInt_lt]; rw [toInt_le] at hho; omega), rd_in (by omega) (by decide), l20 hg, Bool.true_and]
            show (if l' k = lieI (37 + gt) then _ else _) = _
            rw [hl']
            have hph := pu_home hA.1 (T := T) hA.2.1 (b := i / 4) (d := i % 4) (k := k) (g := gt) (by omega) (by omega)
            by_cases hq : (pushD (aY A) T (aD A) (i / 4) (i % 4)).1.1 k = 37 + gt
            · rw [hq, if_pos rfl, nm_eq, nI_1, decide_eq_true (hph.mp hq)]
              rfl
            · rw [if_neg (fun z => hq ((lie_inj (wfd_lt hA.1 hP.1 hk) (by omega)).mp z)), nm_eq, nI_1, decide_eq_false (fun z => hq (hph.mpr z))]
              rfl
        · rw [if_pos ((lie_neg hlt).1.mpr (by omega)), nm_eq, nI_1, decide_eq_false hl, Bool.false_and]
          rfl
      · rw [if_neg (show ¬ bI true = 0 by decide), nm_eq, nI_1, Bool.true_or]
        rfl
    by_cases hx : 0 ≤ x19
    · rw [if_pos hx] at hv ⊢
      exact key _ hv
    · rw [if_neg hx] at hv ⊢
      exact key _ hv
theorem t_1642_no (rl1488 : Mem → Nat → (Nat → Int32) → (Nat → Int32) → (Nat → Int32) → (Nat → Int64) → Int32 → Int32 → Option (Int32)) (rl1533 : Mem → Nat → (Nat → Int32) → (Nat → Int32) → (Nat → Int32) → (Nat → Int64) → Int32 → Int32 → Int32 → Int32 → Int32 → Int32 → Int32 → Int32 → Option (Int32)) (rl1558 : Mem → Nat → (Nat → Int32) → (Nat → Int32) → (Nat → Int32) → (Nat → Int64) → Int32 → Int32 → Int32 → Int32 → Int32 → Int32 → Int32 → Int32 → Int32 → Option (Int32)) (σ : Mem) (n : Nat) (x4 x13 x14 x15 x16 x17 x18 x19 x20 x22 x24 : Int32) : FL_law_1642 L xs0 rl1488 rl1533 rl1558 FU σ n y g l s3 x4 x13 x14 x15 x16 x17 x18 x19 x20 0 x22 0 x24 = FL_law_1767 L xs0 rl1488 rl1533 rl1558 σ n y g l s3 x4 x13 x14 x15 x16 x17 x18 x19 x20 x22 0 := by
  show BL_law_1642 L xs0 rl1488 rl1533 rl1558 (FL_law_1642 L xs0 rl1488 rl1533 rl1558 9999999) σ n y g l s3 x4 x13 x14 x15 x16 x17 x18 x19 x20 0 x22 0 x24 = _
  unfold BL_law_1642
  by_cases h : x4 ≤ x24
  · rw [if_pos h]
  · rw [if_neg h, if_pos rfl]
/-- no sand helps where none is needed -/
theorem hmB_no {T : Nat → Bool} {k gt : Nat} (hT : TOk (aY A) T) (h0 : (decide ((aD A).1 k < 36) && bh (aY A) T0 k gt 1 (aD A)) = false) : hmB A T k gt 0 (4 * db (aY A)) = false := by
  unfold hmB
  rw [← bh_s]
  cases hl : decide ((aD A).1 k < 36)
  · rfl
  · rw [hl, Bool.true_and] at h0
    rw [Bool.true_and]
    cases hb : bh (aY A) T k gt (0 + 1) (aD A)
    · rfl
    · have := bh_1 hT (T' := T0) (fun i hi => by cases hi) hb
      rw [h0] at this
      cases this
theorem fr_T {c e : Nat} (hc : c < dn (aY A)) (he : e < dn (aY A)) (h1 : dg (aY A) c = 0) (h2 : dg (aY A) e = 0) : TOk (aY A) (fun i => decide (i = c) || decide (i = e)) := by
  intro i hi
  rw [Bool.or_eq_true, decide_eq_true_eq, decide_eq_true_eq] at hi
  rcases hi with rfl | rfl
  · exact ⟨hc, h1⟩
  · exact ⟨he, h2⟩
/-- two cells of sand, or one: nothing -/
theorem t_1558 (hw : Lw A y g l (s3 0)) {k gt : Nat} (hk : k < db (aY A)) (hg : gt < 2) (h0 : (decide ((aD A).1 k < 36) && bh (aY A) T0 k gt 1 (aD A)) = false) (rl1488 : Mem → Nat → (Nat → Int32) → (Nat → Int32) → (Nat → Int32) → (Nat → Int64) → Int32 → Int32 → Option (Int32)) (rl1533 : Mem → Nat → (Nat → Int32) → (Nat → Int32) → (Nat → Int32) → (Nat → Int64) → Int32 → Int32 → Int32 → Int32 → Int32 → Int32 → Int32 → Int32 → Option (Int32)) (σ : Mem) {x : Nat} (hx : x < dn (aY A)) : ∀ (m z fuel n : Nat), z + m = dn (aY A) → m < fuel → n + 24 * m ≤ 600000 → ∃ n', n' ≤ n + 24 * m ∧ FL_law_1558 L xs0 rl1488 rl1533 fuel σ n y g l s3 (nI (4 * db (aY A))) (nI k) (nI gt) (nI (dn (aY A))) (-9) (-9) (-9) (nI x) (nI z) = rl1533 σ n' y g l s3 (nI (4 * db (aY A))) (nI k) (nI gt) (nI (dn (aY A))) (-9) (-9) (-9) (nI (x + 1)) := by
  have hw' := hw
  obtain ⟨hA, hY, hE, h3, hd, hdis⟩ := hw
  have h6 := hA.1.2.1
  have h36 := dn_le hA.1
  intro m
  induction m with
  | zero =>
    intro z fuel n hz hf hn
    obtain ⟨f, rfl⟩ : ∃ f, fuel = f + 1 := ⟨fuel - 1, by omega⟩
    refine ⟨n, by omega, ?_⟩
    show BL_law_1558 L xs0 rl1488 rl1533 (FL_law_1558 L xs0 rl1488 rl1533 f) σ n y g l s3 (nI (4 * db (aY A))) (nI k) (nI gt) (nI (dn (aY A))) (-9) (-9) (-9) (nI x) (nI z) = _
    unfold BL_law_1558 FL_law_1571
    rw [if_pos (nI_pos' (by omega)), if_pos (nI_le (by omega) (by omega)), nm_eq, nI_1]
  | succ m ih =>
    intro z fuel n hz hf hn
    obtain ⟨f, rfl⟩ : ∃ f, fuel = f + 1 := ⟨fuel - 1, by omega⟩
    have hzz : z < dn (aY A) := by omega
    show ∃ n', _ ∧ BL_law_1558 L xs0 rl1488 rl1533 (FL_law_1558 L xs0 rl1488 rl1533 f) σ n y g l s3 (nI (4 * db (aY A))) (nI k) (nI gt) (nI (dn (aY A))) (-9) (-9) (-9) (nI x) (nI z) = _
    -- what comes of it: on with the next
    have nx : ∀ n', n' ≤ n + 24 → ∀ x22 : Int32, ∃ n'', n'' ≤ n + 24 * (m + 1) ∧ FL_law_1767 L xs0 rl1488 rl1533 (FL_law_1558 L xs0 rl1488 rl1533 f) σ n' y g l s3 (nI (4 * db (aY A))) (nI k) (nI gt) (nI (dn (aY A))) (-9) (-9) (-9) (nI x) (nI z) x22 0 = rl1533 σ n'' y g l s3 (nI (4 * db (aY A))) (nI k) (nI gt) (nI (dn (aY A))) (-9) (-9) (-9) (nI (x + 1)) := by
      intro n' hn' x22
      obtain ⟨n'', q1, q2⟩ := ih (z + 1) f n' (by omega) (by omega) (by omega)
      refine ⟨n'', by omega, ?_⟩
      unfold FL_law_1767
      rw [if_pos rfl, nm_eq, nI_1]
      exact q2
    have no : ∀ x22 : Int32, ∃ n'', n'' ≤ n + 24 * (m + 1) ∧ FL_law_1642 L xs0 rl1488 rl1533 (FL_law_1558 L xs0 rl1488 rl1533 f) FU σ n y g l s3 (nI (4 * db (aY A))) (nI k) (nI gt) (nI (dn (aY A))) (-9) (-9) (-9) (nI x) (nI z) 0 x22 0 0 = rl1533 σ n'' y g l s3 (nI (4 * db (aY A))) (nI k) (nI gt) (nI (dn (aY A))) (-9) (-9) (-9) (nI (x + 1)) := by
      intro x22
      rw [t_1642_no]
      exact nx n (by omega) x22
    have ye : dg (aY A) x = 0 → dg (aY A) z = 0 → ∀ x22 : Int32, ∃ n'', n'' ≤ n + 24 * (m + 1) ∧ FL_law_1642 L xs0 rl1488 rl1533 (FL_law_1558 L xs0 rl1488 rl1533 f) FU σ n y g l s3 (nI (4 * db (aY A))) (nI k) (nI gt) (nI (dn (aY A))) (-9) (-9) (-9) (nI x) (nI z) 1 x22 0 0 = rl1533 σ n'' y g l s3 (nI (4 * db (aY A))) (nI k) (nI gt) (nI (dn (aY A))) (-9) (-9) (-9) (nI (x + 1)) := by
      intro g1 g2 x22
      have hT := fr_T hx hzz g1 g2
      obtain ⟨n', q1, q2⟩ := t_1642 (L := L) (xs0 := xs0) hw' hT (x19 := nI x) (x20 := nI z) (fun i => by rw [if_pos (nI_pos' (by omega)), w_or, w_one (by omega), w_one (by omega)]) hk hg rl1488 rl1533 (FL_law_1558 L xs0 rl1488 rl1533 f) σ (nI (dn (aY A))) (-9) (-9) x22 (4 * db (aY A)) 0 FU n false (by omega) (by show _ < 10000000; omega) (by omega)
      rw [hmB_no hT h0] at q2
      have q3 : FL_law_1642 L xs0 rl1488 rl1533 (FL_law_1558 L xs0 rl1488 rl1533 f) FU σ n y g l s3 (nI (4 * db (aY A))) (nI k) (nI gt) (nI (dn (aY A))) (-9) (-9) (-9) (nI x) (nI z) 1 x22 0 0 = _ := q2
      rw [q3]
      exact nx n' (by omega) x22
    have m11 : ∀ may : Bool, (may = true → dg (aY A) x = 0 ∧ dg (aY A) z = 0) → ∃ n'', n'' ≤ n + 24 * (m + 1) ∧ FL_law_1611 L xs0 rl1488 rl1533 (FL_law_1558 L xs0 rl1488 rl1533 f) σ n y g l s3 (nI (4 * db (aY A))) (nI k) (nI gt) (nI (dn (aY A))) (-9) (-9) (-9) (nI x) (nI z) (bI may) = rl1533 σ n'' y g l s3 (nI (4 * db (aY A))) (nI k) (nI gt) (nI (dn (aY A))) (-9) (-9) (-9) (nI (x + 1)) := by
      intro may hmay
      unfold FL_law_1611
      rw [if_pos (nI_pos' (by omega))]
      cases may
      · by_cases e : nI z = nI x
        · rw [if_pos e]; exact no 1
        · rw [if_neg e]; exact no 2
      · obtain ⟨g1, g2⟩ := hmay rfl
        by_cases e : nI z = nI x
        · rw [if_pos e]; exact ye g1 g2 1
        · rw [if_neg e]; exact ye g1 g2 2
    unfold BL_law_1558 FL_law_1571 FL_law_1590
    rw [if_pos (nI_pos' (by omega)), if_neg (nI_ge (by omega) (by omega)), if_neg (nI_pos (by omega)), if_neg (nI_pos (by omega)), free_q hA.1 hY hA.2.1 hE hx, free_q hA.1 hY hA.2.1 hE hzz]
    by_cases fx : dg (aY A) x = 0 ∧ blkD (aY A) (aD A) x = none
    · rw [if_pos fx, bz_i 1 (.inr rfl), if_neg (show ¬ (1 : Int32) = 0 by decide)]
      by_cases fz : dg (aY A) z = 0 ∧ blkD (aY A) (aD A) z = none
      · rw [if_pos fz, bz_i 1 (.inr rfl), if_neg (show ¬ (1 : Int32) = 0 by decide)]
        exact m11 true (fun _ => ⟨fx.1, fz.1⟩)
      · rw [if_neg fz, bz_i 0 (.inl rfl), if_pos rfl]
        exact m11 false (fun z => by cases z)
    · rw [if_neg fx, bz_i 0 (.inl rfl), if_pos rfl]
      exact m11 false (fun z => by cases z)
theorem t_1533 (hw : Lw A y g l (s3 0)) {k gt : Nat} (hk : k < db (aY A)) (hg : gt < 2) (h0 : (decide ((aD A).1 k < 36) && bh (aY A) T0 k gt 1 (aD A)) = false) (rl1488 : Mem → Nat → (Nat → Int32) → (Nat → Int32) → (Nat → Int32) → (Nat → Int64) → Int32 → Int32 → Option (Int32)) (σ : Mem) : ∀ (m x fuel n : Nat), x + m = dn (aY A) → m < fuel → n + 1000 * m ≤ 600000 → ∃ n', n' ≤ n + 1000 * m ∧ FL_law_1533 L xs0 rl1488 fuel σ n y g l s3 (nI (4 * db (aY A))) (nI k) (nI gt) (nI (dn (aY A))) (-9) (-9) (-9) (nI x) = FL_law_1817 L xs0 rl1488 σ n' y g l s3 (nI (4 * db (aY A))) (nI k) (nI gt) (-9) (-9) (-9) := by
  have h36 := dn_le hw.1.1
  intro m
  induction m with
  | zero =>
    intro x fuel n hx hf hn
    obtain ⟨f, rfl⟩ : ∃ f, fuel = f + 1 := ⟨fuel - 1, by omega⟩
    refine ⟨n, by omega, ?_⟩
    show BL_law_1533 L xs0 rl1488 (FL_law_1533 L xs0 rl1488 f) σ n y g l s3 (nI (4 * db (aY A))) (nI k) (nI gt) (nI (dn (aY A))) (-9) (-9) (-9) (nI x) = _
    unfold BL_law_1533
    rw [if_pos (nI_le (by omega) (by omega))]
  | succ m ih =>
    intro x fuel n hx hf hn
    obtain ⟨f, rfl⟩ : ∃ f, fuel = f + 1 := ⟨fuel - 1, by omega⟩
    obtain ⟨n1, q1, q2⟩ := t_1558 (L := L) (xs0 := xs0) hw hk hg h0 rl1488 (FL_law_1533 L xs0 rl1488 f) σ (x := x) (by omega) (dn (aY A) - x) x FU n (by omega) (by show _ < 10000000; omega) (by omega)
    obtain ⟨n2, q3, q4⟩ := ih (x + 1) f n1 (by omega) (by omega) (by omega)
    refine ⟨n2, by omega, ?_⟩
    show BL_law_1533 L xs0 rl1488 (FL_law_1533 L xs0 rl1488 f) σ n y g l s3 (nI (4 * db (aY A))) (nI k) (nI gt) (nI (dn (aY A))) (-9) (-9) (-9) (nI x) = _
    unfold BL_law_1533
    rw [if_neg (nI_ge (by omega) (by omega)), if_neg (show ¬ (-9 : Int32) = 0 by decide), if_pos (nI_pos' (by omega)), q2, q4]
/-- from no sand on -/
theorem t_sand0 (hw : Lw A y g l (s3 0)) {k gt : Nat} (hk : k < db (aY A)) (hg : gt < 2) (rl1488 : Mem → Nat → (Nat → Int32) → (Nat → Int32) → (Nat → Int32) → (Nat → Int64) → Int32 → Int32 → Option (Int32)) (σ : Mem) (n : Nat) (hn : n + 40000 ≤ 600000) : ∃ n', n' ≤ n + 40000 ∧ FL_law_1533 L xs0 rl1488 FU σ n y g l s3 (nI (4 * db (aY A))) (nI k) (nI gt) (nI (dn (aY A))) (-9) (-9) (-9) (-1) = FL_law_1817 L xs0 rl1488 σ n' y g l s3 (nI (4 * db (aY A))) (nI k) (nI gt) (sndI A k gt) (-9) (-9) := by
  have hw' := hw
  obtain ⟨hA, hY, hE, h3, hd, hdis⟩ := hw
  have h36 := dn_le hA.1
  have hdn : 0 < dn (aY A) := Nat.mul_pos (by omega) (by omega)
  obtain ⟨n1, q1, q2⟩ := t_1642 (L := L) (xs0 := xs0) hw' (t0_ok (aY A)) (x19 := -1) (x20 := -1) (fun i => by rw [if_neg (by decide), w_0]; rfl) hk hg rl1488 (FL_law_1533 L xs0 rl1488 9999999) (FL_law_1558 L xs0 rl1488 (FL_law_1533 L xs0 rl1488 9999999) 9999999) σ (nI (dn (aY A))) (-9) (-9) 0 (4 * db (aY A)) 0 FU n false (by omega) (by show _ < 10000000; omega) (by omega)
  have st : FL_law_1533 L xs0 rl1488 FU σ n y g l s3 (nI (4 * db (aY A))) (nI k) (nI gt) (nI (dn (aY A))) (-9) (-9) (-9) (-1) = FL_law_1642 L xs0 rl1488 (FL_law_1533 L xs0 rl1488 9999999) (FL_law_1558 L xs0 rl1488 (FL_law_1533 L xs0 rl1488 9999999) 9999999) FU σ n y g l s3 (nI (4 * db (aY A))) (nI k) (nI gt) (nI (dn (aY A))) (-9) (-9) (-9) (-1) (-1) 1 0 0 0 := by
    show BL_law_1533 L xs0 rl1488 (FL_law_1533 L xs0 rl1488 9999999) σ n y g l s3 (nI (4 * db (aY A))) (nI k) (nI gt) (nI (dn (aY A))) (-9) (-9) (-9) (-1) = _
    unfold BL_law_1533
    rw [if_neg (show ¬ nI (dn (aY A)) ≤ -1 by rw [toInt_le, nI_toInt (by omega)]; show ¬ (dn (aY A) : Int) ≤ -1; omega), if_neg (show ¬ (-9 : Int32) = 0 by decide), if_neg (show ¬ 0 ≤ (-1 : Int32) by decide)]
    show BL_law_1558 L xs0 rl1488 (FL_law_1533 L xs0 rl1488 9999999) (FL_law_1558 L xs0 rl1488 (FL_law_1533 L xs0 rl1488 9999999) 9999999) σ n y g l s3 (nI (4 * db (aY A))) (nI k) (nI gt) (nI (dn (aY A))) (-9) (-9) (-9) (-1) (-1) = _
    unfold BL_law_1558 FL_law_1571 FL_law_1590 FL_law_1611
    rw [if_neg (show ¬ 0 ≤ (-1 : Int32) by decide), if_neg (show ¬ (0 : Int32) ≤ -1 by decide), if_pos (show (-1 : Int32) < 0 by decide), if_pos (show (-1 : Int32) < 0 by decide), if_neg (show ¬ 0 ≤ (-1 : Int32) by decide)]
  have z1 : ∀ (n' : Nat) (x16 : Int32), FL_law_1558 L xs0 rl1488 (FL_law_1533 L xs0 rl1488 9999999) 9999999 σ n' y g l s3 (nI (4 * db (aY A))) (nI k) (nI gt) (nI (dn (aY A))) x16 (-9) (-9) (-1) 0 = FL_law_1533 L xs0 rl1488 9999999 σ n' y g l s3 (nI (4 * db (aY A))) (nI k) (nI gt) (nI (dn (aY A))) x16 (-9) (-9) (nI 0) := by
    intro n' x16
    show BL_law_1558 L xs0 rl1488 (FL_law_1533 L xs0 rl1488 9999999) (FL_law_1558 L xs0 rl1488 (FL_law_1533 L xs0 rl1488 9999999) 9999998) σ n' y g l s3 (nI (4 * db (aY A))) (nI k) (nI gt) (nI (dn (aY A))) x16 (-9) (-9) (-1) 0 = _
    unfold BL_law_1558 FL_law_1571
    rw [if_neg (show ¬ 0 ≤ (-1 : Int32) by decide), if_pos (show (0 : Int32) ≤ 0 by decide), nm_eq]
    rfl
  have q3 : FL_law_1642 L xs0 rl1488 (FL_law_1533 L xs0 rl1488 9999999) (FL_law_1558 L xs0 rl1488 (FL_law_1533 L xs0 rl1488 9999999) 9999999) FU σ n y g l s3 (nI (4 * db (aY A))) (nI k) (nI gt) (nI (dn (aY A))) (-9) (-9) (-9) (-1) (-1) 1 0 0 0 = _ := q2
  rw [st, q3]
  have hB : (false || hmB A T0 k gt 0 (4 * db (aY A))) = (decide ((aD A).1 k < 36) && bh (aY A) T0 k gt 1 (aD A)) := by
    rw [Bool.false_or]; rfl
  rw [hB]
  unfold FL_law_1767 FL_law_1788
  cases hv : (decide ((aD A).1 k < 36) && bh (aY A) T0 k gt 1 (aD A))
  · have hs : sndI A k gt = -9 := by
      unfold sndI
      rw [if_neg (fun z => by rw [decide_eq_true z.1, z.2] at hv; cases hv)]
    obtain ⟨n2, r1, r2⟩ := t_1533 (L := L) (xs0 := xs0) hw' hk hg hv rl1488 σ (dn (aY A)) 0 9999999 n1 (by omega) (by omega) (by omega)
    refine ⟨n2, by omega, ?_⟩
    rw [if_pos (show bI false = 0 from rfl), nm_eq, show (-1 : Int32) + 1 = 0 by decide, z1, r2, hs]
  · have hs : sndI A k gt = 0 := by
      unfold sndI
      rw [Bool.and_eq_true, decide_eq_true_eq] at hv
      rw [if_pos hv]
    refine ⟨n1, by omega, ?_⟩
    rw [if_neg (show ¬ bI true = 0 by decide), if_pos (show (0 : Int32) ≤ 0 by decide), if_pos (show (0 : Int32) ≤ 1 by decide), nm_eq, show (-1 : Int32) + 1 = 0 by decide, z1, hs]
    show BL_law_1533 L xs0 rl1488 (FL_law_1533 L xs0 rl1488 9999998) σ n1 y g l s3 (nI (4 * db (aY A))) (nI k) (nI gt) (nI (dn (aY A))) 0 (-9) (-9) (nI 0) = _
    unfold BL_law_1533
    rw [if_neg (nI_ge hdn (by omega)), if_pos rfl]
end LS
/-- the law's sand, block by block, and what is behind it -/
theorem t_1488 {L : Nat} (hL : L ≤ 260) {xs0 : Nat → Int32} {A : As} {y g l : Nat → Int32} {s3 : Nat → Int64} (hw : Lw A y g l (s3 0)) : ∀ (m i fuel n : Nat) (σ : Mem), i + m = db (aY A) → m < fuel → n + 40000 * m ≤ 600000 → RX A σ → FL_law_1488 L xs0 fuel σ n y g l s3 (nI (4 * db (aY A))) (nI i) = some 1 := by
  have hw' := hw
  obtain ⟨hA, hY, hE, h3, hd, hdis⟩ := hw
  intro m
  induction m with
  | zero =>
    intro i fuel n σ hi hf hn hX
    obtain ⟨f, rfl⟩ : ∃ f, fuel = f + 1 := ⟨fuel - 1, by omega⟩
    show BL_law_1488 L xs0 (FL_law_1488 L xs0 f) σ n y g l s3 (nI (4 * db (aY A))) (nI i) = _
    unfold BL_law_1488
    rw [rd2 (by decide) (by decide), hY.2.2.1, if_pos (nI_le (by omega) (by omega))]
    exact t_1873 hw' hX (db (aY A)) 0 FU n (by omega) (by show _ < 10000000; omega)
  | succ m ih =>
    intro i fuel n σ hi hf hn hX
    obtain ⟨f, rfl⟩ : ∃ f, fuel = f + 1 := ⟨fuel - 1, by omega⟩
    show BL_law_1488 L xs0 (FL_law_1488 L xs0 f) σ n y g l s3 (nI (4 * db (aY A))) (nI i) = _
    unfold BL_law_1488
    obtain ⟨v, hv⟩ := cell_tot L hL xs0 9 (by decide)
    have hgt : ∃ gt, gt < 2 ∧ (v >>> (nI i &&& 31)) &&& 1 = nI gt := by
      rcases i_and1 (v >>> (nI i &&& 31)) with h | h
      · exact ⟨0, by decide, h⟩
      · exact ⟨1, by decide, h⟩
    obtain ⟨gt, hg, hgv⟩ := hgt
    rw [rd2 (by decide) (by decide), hY.2.2.1, if_neg (nI_ge (by omega) (by omega)), show FL_cell L xs0 (9 : Int32) = some v from hv, bn_some, nm_eq, rd0 (by decide) (by decide), rd1 (by decide) (by decide), nm_eq, hY.1, hY.2.1, pk_mul, hgv]
    have hn2 : n + 40000 ≤ 600000 := Nat.le_trans (Nat.add_le_add_left (Nat.le_mul_of_pos_right 40000 (Nat.succ_pos m)) n) hn
    have hn3 : n + 40000 + 40000 * m ≤ 600000 := by rw [Nat.mul_succ, Nat.add_comm (40000 * m), ← Nat.add_assoc] at hn; exact hn
    obtain ⟨n1, q1, q2⟩ := t_sand0 (L := L) (xs0 := xs0) hw' (k := i) (by omega) hg (FL_law_1488 L xs0 f) σ n hn2
    rw [show dh (aY A) * dw (aY A) = dn (aY A) from rfl, q2]
    unfold FL_law_1817
    obtain ⟨σ1, a1, a2⟩ := sand_x hA hX (k := i) (g := gt) (q := -1) (by omega) hg (.inl rfl)
    obtain ⟨σ2, b1, b2⟩ := sand_x hA a2 (k := i) (g := gt) (q := 0) (by omega) hg (.inr (.inl rfl))
    obtain ⟨σ3, c1, c2⟩ := sand_x hA b2 (k := i) (g := gt) (q := 1) (by omega) hg (.inr (.inr rfl))
    rw [a1, bi_some, if_pos rfl, if_pos rfl, b1, bi_some, if_neg (show ¬ (0 : Int32) = -1 by decide), if_pos rfl, c1, bi_some, if_neg (show ¬ (1 : Int32) = -1 by decide), if_pos rfl, nm_eq, nI_1]
    exact ih (i + 1) f n1 σ3 (by omega) (by omega) (Nat.le_trans (Nat.add_le_add_right q1 _) hn3) c2

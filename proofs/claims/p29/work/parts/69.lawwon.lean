/-! ===== the law's games ===== -/
section LW
variable {L : Nat} {xs0 : Nat → Int32} {A : As} {y g l : Nat → Int32} {s3 : Nat → Int64}
abbrev RB : Type := Mem → Nat → (Nat → Int32) → (Nat → Int32) → (Nat → Int32) → (Nat → Int64) → Int32 → Int32 → Option (Int32)
abbrev RN : Type := Mem → Nat → (Nat → Int32) → (Nat → Int32) → (Nat → Int32) → (Nat → Int64) → Int32 → Int32 → Int32 → Int32 → Int32 → Int32 → Option (Int32)
def wI8 (n : Nat) (o : Option Nat) : Int32 := match o with
  | none => -9
  | some _ => nI n
/-- the boy's push without a home, by which it is forced -/
def hF (Y : Yd) (boy r : Nat) (D : Dy) (p : Nat) : Bool := gsF Y D p && (decide (hgt (pp Y T0 D p) = none) && vl Y boy (r + 1) false (pp Y T0 D p).1)
theorem hF_wp {Y : Yd} {boy r : Nat} {D : Dy} {N : Nat} (h1 : finF (wpF Y boy 0 D) 0 N = none) : ∀ p, p < N → hF Y boy r D p = wpF Y boy (r + 1) D p := by
  intro p hp
  have h0 := finF_none h1 p (Nat.zero_le _) (by omega)
  unfold wpF vlP at h0 ⊢
  unfold hF
  cases hg : gsF Y D p
  · rfl
  · rw [hg, Bool.true_and] at h0
    rw [Bool.true_and, Bool.true_and]
    rw [Bool.or_eq_false_iff] at h0
    rw [h0.1, Bool.false_or]
theorem finF_cong {f h : Nat → Bool} : ∀ {m p : Nat}, (∀ q, p ≤ q → q < p + m → f q = h q) → finF f p m = finF h p m := by
  intro m
  induction m with
  | zero => intro p _; rfl
  | succ m ih =>
    intro p hh
    unfold finF
    rw [hh p (Nat.le_refl _) (by omega), ih fun q h1 h2 => hh q (by omega) (by omega)]
theorem t_823 (hw : Lw A y g l (s3 0)) {boy r : Nat} (hb : boy < 2) (hr : r < 2) (rl708 : RB) (rl809 : RN) (σ : Mem) (x10 : Int32) : ∀ (m i fuel n : Nat), i + m = 4 * db (aY A) → m < fuel → n + 1002 * m ≤ 600000 → ∃ n', n' ≤ n + 1002 * m ∧ FL_law_823 L xs0 rl708 rl809 fuel σ n y g l s3 (nI (4 * db (aY A))) (nI boy) (-9) (-9) x10 (nI (r + 2)) (nI i) = rl809 σ n' y g l s3 (nI (4 * db (aY A))) (nI boy) (wI8 (r + 2) (finF (hF (aY A) boy r (aD A)) i m)) (wpI (finF (hF (aY A) boy r (aD A)) i m)) x10 (nI (r + 3)) := by
  have hw' := hw
  obtain ⟨hA, hY, hE, h3, hd, hdis⟩ := hw
  intro m
  induction m with
  | zero =>
    intro i fuel n hi hf hn
    obtain ⟨f, rfl⟩ : ∃ f, fuel = f + 1 := ⟨fuel - 1, by omega⟩
    refine ⟨n, by omega, ?_⟩
    show BL_law_823 L xs0 rl708 rl809 (FL_law_823 L xs0 rl708 rl809 f) σ n y g l s3 (nI (4 * db (aY A))) (nI boy) (-9) (-9) x10 (nI (r + 2)) (nI i) = _
    unfold BL_law_823
    rw [if_pos (nI_le (by omega) (by omega)), nm_eq, nI_1]
    rfl
  | succ m ih =>
    intro i fuel n hi hf hn
    obtain ⟨f, rfl⟩ : ∃ f, fuel = f + 1 := ⟨fuel - 1, by omega⟩
    have e9 : 1002 * (m + 1) = 1002 + 1002 * m := by rw [Nat.mul_succ, Nat.add_comm]
    rw [e9] at hn ⊢
    generalize 1002 * m = c9 at *
    show ∃ n', _ ∧ BL_law_823 L xs0 rl708 rl809 (FL_law_823 L xs0 rl708 rl809 f) σ n y g l s3 (nI (4 * db (aY A))) (nI boy) (-9) (-9) x10 (nI (r + 2)) (nI i) = _
    unfold BL_law_823 finF
    rw [if_neg (nI_ge (by omega) (by omega)), if_neg (show ¬ 0 ≤ (-9 : Int32) by decide), rd0 (by decide) (by decide), al_in (by omega), oc_eq hA.1 hY hA.2.1 hE (by omega) hb, bn_some]
    have hh : hF (aY A) boy r (aD A) i = (gsF (aY A) (aD A) i && (decide (hgt (pp (aY A) T0 (aD A) i) = none) && vl (aY A) boy (r + 1) false (pp (aY A) T0 (aD A) i).1)) := rfl
    have on : ∀ n', n' ≤ n + 1002 → hF (aY A) boy r (aD A) i = false → ∃ n'', n'' ≤ n + (1002 + c9) ∧ FL_law_823 L xs0 rl708 rl809 f σ n' y g l s3 (nI (4 * db (aY A))) (nI boy) (-9) (-9) x10 (nI (r + 2)) (nI (i + 1)) = rl809 σ n'' y g l s3 (nI (4 * db (aY A))) (nI boy) (wI8 (r + 2) (if hF (aY A) boy r (aD A) i then some i else finF (hF (aY A) boy r (aD A)) (i + 1) m)) (wpI (if hF (aY A) boy r (aD A) i then some i else finF (hF (aY A) boy r (aD A)) (i + 1) m)) x10 (nI (r + 3)) := by
      intro n' hn' hf0
      obtain ⟨n'', q1, q2⟩ := ih (i + 1) f n' (by omega) (by omega) (by omega)
      refine ⟨n'', by omega, ?_⟩
      rw [hf0, if_neg (by decide)]
      exact q2
    rcases oc_cases (Y := aY A) (boy := boy) (D := aD A) (p := i) with ⟨g1, g2⟩ | ⟨g1, g2, g3⟩ | ⟨g1, g2, g3⟩ | ⟨g1, g2, g3, g4⟩
    · rw [g2, if_neg (show ¬ (-2 : Int32) = 0 by decide), nm_eq, nI_1]
      exact on (n + 2) (by omega) (by rw [hh, g1, Bool.false_and])
    · rw [g3, if_neg (show ¬ (1 : Int32) = 0 by decide), nm_eq, nI_1]
      exact on (n + 2) (by omega) (by rw [hh, g2, decide_eq_false (fun z => by cases z), Bool.false_and, Bool.and_false])
    · rw [g3, if_pos rfl, rd0 (by decide) (by decide), al_in (by omega), forced_q hA.1 h3 hY hA.2.1 hE (by omega) hb hr, bzb]
      cases hv : vl (aY A) boy (r + 1) false (pp (aY A) T0 (aD A) i).1
      · rw [if_pos (show bI false = 0 from rfl), nm_eq, nI_1]
        exact on (n + 2 + 1000) (by omega) (by rw [hh, hv, Bool.and_false, Bool.and_false])
      · have ht : hF (aY A) boy r (aD A) i = true := by rw [hh, g1, g2, hv, decide_eq_true rfl]; rfl
        refine ⟨n + 2 + 1000, by omega, ?_⟩
        rw [if_neg (show ¬ bI true = 0 by decide), dzI_ok (by decide), dzI_ok (by decide), nm_eq, nm_eq, nI_1, num_I (by omega), ht, if_pos rfl]
        obtain ⟨f', rfl⟩ : ∃ f', f = f' + 1 := ⟨f - 1, by omega⟩
        show BL_law_823 L xs0 rl708 rl809 (FL_law_823 L xs0 rl708 rl809 f') σ (n + 2 + 1000) y g l s3 (nI (4 * db (aY A))) (nI boy) (nI (r + 2)) (nI (num i)) x10 (nI (r + 2)) (nI (i + 1)) = _
        unfold BL_law_823
        rw [if_pos (show 0 ≤ nI (r + 2) from nI_pos' (by omega)), nm_eq, nI_1]
        by_cases q : nI (4 * db (aY A)) ≤ nI (i + 1)
        · rw [if_pos q]; rfl
        · rw [if_neg q]; rfl
    · rw [g4, if_neg (show ¬ (-1 : Int32) = 0 by decide), nm_eq, nI_1]
      exact on (n + 2) (by omega) (by rw [hh, decide_eq_false g3, Bool.false_and, Bool.and_false])
/-- the class's answer against the law's -/
theorem t_904 (hA : WA A) {σ : Mem} (hX : RX A σ) {boy : Nat} (hb : boy < 2) (rl708 : RB) (n : Nat) (x10 : Int32) {x8 x9 : Int32} (h : (x8 = -9 ∧ (wonN (aY A) boy (aD A) 1 4 = none ∨ wonN (aY A) boy (aD A) 1 4 = some 4)) ∨ ∃ k, 1 ≤ k ∧ k ≤ 3 ∧ wonN (aY A) boy (aD A) 1 4 = some k ∧ x8 = nI k ∧ x9 = wpI (finF (wpF (aY A) boy (k - 1) (aD A)) 0 (4 * db (aY A)))) : ∃ σ', RX A σ' ∧ FL_law_904 L xs0 rl708 σ n y g l s3 (nI (4 * db (aY A))) (nI boy) x8 x9 x10 = rl708 σ' n y g l s3 (nI (4 * db (aY A))) (nI (boy + 1)) := by
  obtain ⟨σ1, a1, a2⟩ := won_x hA hX hb
  unfold FL_law_904
  rw [a1, bi_some]
  by_cases h0 : x10 = 0
  · rw [if_pos h0, nm_eq, nI_1]
    exact ⟨σ1, a2, rfl⟩
  · rw [if_neg h0]
    rcases h with ⟨rfl, hn⟩ | ⟨k, k1, k2, k3, rfl, rfl⟩
    · rw [if_pos (show (-9 : Int32) ≤ 0 by decide)]
      rcases hn with hn | hn
      · rw [hn, if_pos (show wnI none ≤ 0 by decide), nm_eq, nI_1]
        exact ⟨σ1, a2, rfl⟩
      · rw [hn, if_neg (show ¬ wnI (some 4) ≤ 0 by decide), if_pos (show (4 : Int32) ≤ wnI (some 4) by decide), nm_eq, nI_1]
        exact ⟨σ1, a2, rfl⟩
    · obtain ⟨σ2, b1, b2⟩ := first_x hA a2 hb k3
      rw [if_neg (nI_nle (by omega) (by omega)), k3, if_pos (show wnI (some k) = nI k from rfl), b1, bi_some, if_pos rfl, nm_eq, nI_1]
      exact ⟨σ2, b2, rfl⟩
theorem won_cases (Y : Yd) (boy : Nat) (D : Dy) : wonN Y boy D 1 4 = if vl Y boy 1 true D then some 1 else if vl Y boy 2 true D then some 2 else if vl Y boy 3 true D then some 3 else if vl Y boy 4 true D then some 4 else none := rfl
theorem vl_fin (Y : Yd) (boy r : Nat) (D : Dy) : vl Y boy (r + 1) true D = (finF (wpF Y boy r D) 0 (4 * db Y)).isSome := by rw [vl_t, finF_any]
/-- won in two, in three -/
theorem t_809 (hw : Lw A y g l (s3 0)) {boy : Nat} (hb : boy < 2) (rl708 : RB) {σ : Mem} (hX : RX A σ) (n : Nat) (hn : n + 30000 ≤ 600000) (x10 : Int32) {o1 : Option Nat} (h1 : finF (wpF (aY A) boy 0 (aD A)) 0 (4 * db (aY A)) = o1) : ∃ n' σ', n' ≤ n + 30000 ∧ RX A σ' ∧ FL_law_809 L xs0 rl708 FU σ n y g l s3 (nI (4 * db (aY A))) (nI boy) (wI8 1 o1) (wpI o1) x10 2 = rl708 σ' n' y g l s3 (nI (4 * db (aY A))) (nI (boy + 1)) := by
  have hw' := hw
  obtain ⟨hA, hY, hE, h3, hd, hdis⟩ := hw
  have v1 : vl (aY A) boy 1 true (aD A) = o1.isSome := by rw [vl_fin, h1]
  cases o1 with
  | some p =>
    obtain ⟨σ', r1, r2⟩ := t_904 (L := L) (xs0 := xs0) (y := y) (g := g) (l := l) (s3 := s3) hA hX hb rl708 n x10 (x8 := wI8 1 (some p)) (x9 := wpI (some p)) (.inr ⟨1, by omega, by omega, by rw [won_cases, v1]; rfl, rfl, by rw [show 1 - 1 = 0 from rfl, h1]⟩)
    refine ⟨n, σ', by omega, r1, ?_⟩
    show BL_law_809 L xs0 rl708 (FL_law_809 L xs0 rl708 9999999) σ n y g l s3 (nI (4 * db (aY A))) (nI boy) (wI8 1 (some p)) (wpI (some p)) x10 2 = _
    unfold BL_law_809
    rw [if_neg (show ¬ (4 : Int32) ≤ 2 by decide), if_pos (show 0 ≤ wI8 1 (some p) from (by decide : (0 : Int32) ≤ nI 1))]
    exact r2
  | none =>
    have v1' : vl (aY A) boy 1 true (aD A) = false := v1
    have c1 : finF (hF (aY A) boy 0 (aD A)) 0 (4 * db (aY A)) = finF (wpF (aY A) boy 1 (aD A)) 0 (4 * db (aY A)) := finF_cong (fun q _ hq => hF_wp h1 q (by omega))
    have c2 : finF (hF (aY A) boy 1 (aD A)) 0 (4 * db (aY A)) = finF (wpF (aY A) boy 2 (aD A)) 0 (4 * db (aY A)) := finF_cong (fun q _ hq => hF_wp h1 q (by omega))
    obtain ⟨n1, q1, q2⟩ := t_823 (L := L) (xs0 := xs0) hw' hb (r := 0) (by decide) rl708 (FL_law_809 L xs0 rl708 9999999) σ x10 (4 * db (aY A)) 0 FU n (Nat.zero_add _) (by show _ < 10000000; omega) (by omega)
    have st : FL_law_809 L xs0 rl708 FU σ n y g l s3 (nI (4 * db (aY A))) (nI boy) (wI8 1 none) (wpI none) x10 2 = FL_law_823 L xs0 rl708 (FL_law_809 L xs0 rl708 9999999) FU σ n y g l s3 (nI (4 * db (aY A))) (nI boy) (-9) (-9) x10 (nI (0 + 2)) (nI 0) := by
      show BL_law_809 L xs0 rl708 (FL_law_809 L xs0 rl708 9999999) σ n y g l s3 (nI (4 * db (aY A))) (nI boy) (-9) (-9) x10 2 = _
      unfold BL_law_809
      rw [if_neg (show ¬ (4 : Int32) ≤ 2 by decide), if_neg (show ¬ 0 ≤ (-9 : Int32) by decide)]
      rfl
    rw [st, q2, c1]
    cases h2 : finF (wpF (aY A) boy 1 (aD A)) 0 (4 * db (aY A)) with
    | some p =>
      have v2 : vl (aY A) boy 2 true (aD A) = true := by rw [vl_fin, h2]; rfl
      obtain ⟨σ', r1, r2⟩ := t_904 (L := L) (xs0 := xs0) (y := y) (g := g) (l := l) (s3 := s3) hA hX hb rl708 n1 x10 (x8 := wI8 (0 + 2) (some p)) (x9 := wpI (some p)) (.inr ⟨2, by omega, by omega, by rw [won_cases, v1', v2]; rfl, rfl, by rw [show 2 - 1 = 1 from rfl, h2]⟩)
      refine ⟨n1, σ', by omega, r1, ?_⟩
      show BL_law_809 L xs0 rl708 (FL_law_809 L xs0 rl708 9999998) σ n1 y g l s3 (nI (4 * db (aY A))) (nI boy) (wI8 (0 + 2) (some p)) (wpI (some p)) x10 (nI (0 + 3)) = _
      unfold BL_law_809
      rw [if_neg (show ¬ (4 : Int32) ≤ nI (0 + 3) by decide), if_pos (show 0 ≤ wI8 (0 + 2) (some p) from (by decide : (0 : Int32) ≤ nI 2))]
      exact r2
    | none =>
      have v2 : vl (aY A) boy 2 true (aD A) = false := by rw [vl_fin, h2]; rfl
      obtain ⟨n2, q3, q4⟩ := t_823 (L := L) (xs0 := xs0) hw' hb (r := 1) (by decide) rl708 (FL_law_809 L xs0 rl708 9999998) σ x10 (4 * db (aY A)) 0 FU n1 (Nat.zero_add _) (by show _ < 10000000; omega) (by omega)
      have st2 : FL_law_809 L xs0 rl708 9999999 σ n1 y g l s3 (nI (4 * db (aY A))) (nI boy) (wI8 (0 + 2) none) (wpI none) x10 (nI (0 + 3)) = FL_law_823 L xs0 rl708 (FL_law_809 L xs0 rl708 9999998) FU σ n1 y g l s3 (nI (4 * db (aY A))) (nI boy) (-9) (-9) x10 (nI (1 + 2)) (nI 0) := by
        show BL_law_809 L xs0 rl708 (FL_law_809 L xs0 rl708 9999998) σ n1 y g l s3 (nI (4 * db (aY A))) (nI boy) (-9) (-9) x10 (nI 3) = _
        unfold BL_law_809
        rw [if_neg (show ¬ (4 : Int32) ≤ nI 3 by decide), if_neg (show ¬ 0 ≤ (-9 : Int32) by decide)]
        rfl
      rw [st2, q4, c2]
      have fin4 : ∀ x8 x9 : Int32, FL_law_809 L xs0 rl708 9999998 σ n2 y g l s3 (nI (4 * db (aY A))) (nI boy) x8 x9 x10 (nI (1 + 3)) = FL_law_904 L xs0 rl708 σ n2 y g l s3 (nI (4 * db (aY A))) (nI boy) x8 x9 x10 := by
        intro x8 x9
        show BL_law_809 L xs0 rl708 (FL_law_809 L xs0 rl708 9999997) σ n2 y g l s3 (nI (4 * db (aY A))) (nI boy) x8 x9 x10 (nI 4) = _
        unfold BL_law_809
        rw [if_pos (show (4 : Int32) ≤ nI 4 by decide)]
      rw [fin4]
      cases h3' : finF (wpF (aY A) boy 2 (aD A)) 0 (4 * db (aY A)) with
      | some p =>
        have v3 : vl (aY A) boy 3 true (aD A) = true := by rw [vl_fin, h3']; rfl
        obtain ⟨σ', r1, r2⟩ := t_904 (L := L) (xs0 := xs0) (y := y) (g := g) (l := l) (s3 := s3) hA hX hb rl708 n2 x10 (x8 := wI8 (1 + 2) (some p)) (x9 := wpI (some p)) (.inr ⟨3, by omega, by omega, by rw [won_cases, v1', v2, v3]; rfl, rfl, by rw [show 3 - 1 = 2 from rfl, h3']⟩)
        exact ⟨n2, σ', by omega, r1, r2⟩
      | none =>
        have v3 : vl (aY A) boy 3 true (aD A) = false := by rw [vl_fin, h3']; rfl
        obtain ⟨σ', r1, r2⟩ := t_904 (L := L) (xs0 := xs0) (y := y) (g := g) (l := l) (s3 := s3) hA hX hb rl708 n2 x10 (x8 := wI8 (1 + 2) none) (x9 := wpI none) (.inl ⟨rfl, by
          rw [won_cases, v1', v2, v3]
          cases vl (aY A) boy 4 true (aD A)
          · exact .inl rfl
          · exact .inr rfl⟩)
        exact ⟨n2, σ', by omega, r1, r2⟩
/-- won by one push; who can push at all -/
theorem t_728 (hw : Lw A y g l (s3 0)) {boy : Nat} (hb : boy < 2) (rl708 : RB) (σ : Mem) : ∀ (m i fuel n : Nat) (o : Option Nat) (c : Bool), i + m = 4 * db (aY A) → m < fuel → n + 2 * m ≤ 600000 → ∃ n' c', n' ≤ n + 2 * m ∧ FL_law_728 L xs0 rl708 fuel σ n y g l s3 (nI (4 * db (aY A))) (nI boy) (wI8 1 o) (wpI o) (bI c) (nI i) = FL_law_809 L xs0 rl708 FU σ n' y g l s3 (nI (4 * db (aY A))) (nI boy) (wI8 1 (o.or (finF (wpF (aY A) boy 0 (aD A)) i m))) (wpI (o.or (finF (wpF (aY A) boy 0 (aD A)) i m))) (bI c') 2 := by
  have hw' := hw
  obtain ⟨hA, hY, hE, h3, hd, hdis⟩ := hw
  intro m
  induction m with
  | zero =>
    intro i fuel n o c hi hf hn
    obtain ⟨f, rfl⟩ : ∃ f, fuel = f + 1 := ⟨fuel - 1, by omega⟩
    refine ⟨n, c, by omega, ?_⟩
    show BL_law_728 L xs0 rl708 (FL_law_728 L xs0 rl708 f) σ n y g l s3 (nI (4 * db (aY A))) (nI boy) (wI8 1 o) (wpI o) (bI c) (nI i) = _
    unfold BL_law_728
    rw [if_pos (nI_le (by omega) (by omega)), show finF (wpF (aY A) boy 0 (aD A)) i 0 = none from rfl, Option.or_none]
  | succ m ih =>
    intro i fuel n o c hi hf hn
    obtain ⟨f, rfl⟩ : ∃ f, fuel = f + 1 := ⟨fuel - 1, by omega⟩
    show ∃ n' c', _ ∧ BL_law_728 L xs0 rl708 (FL_law_728 L xs0 rl708 f) σ n y g l s3 (nI (4 * db (aY A))) (nI boy) (wI8 1 o) (wpI o) (bI c) (nI i) = _
    unfold BL_law_728
    rw [if_neg (nI_ge (by omega) (by omega)), rd0 (by decide) (by decide), al_in (by omega), oc_eq hA.1 hY hA.2.1 hE (by omega) hb, bn_some]
    have hfin : finF (wpF (aY A) boy 0 (aD A)) i (m + 1) = if wpF (aY A) boy 0 (aD A) i then some i else finF (wpF (aY A) boy 0 (aD A)) (i + 1) m := rfl
    have k70 : ∀ c1 : Bool, ∃ n' c', n' ≤ n + 2 * (m + 1) ∧ FL_law_770 L xs0 rl708 (FL_law_728 L xs0 rl708 f) σ (n + 2) y g l s3 (nI (4 * db (aY A))) (nI boy) (wI8 1 o) (wpI o) (nI i) (ocI (aY A) boy (aD A) i) (bI c1) = FL_law_809 L xs0 rl708 FU σ n' y g l s3 (nI (4 * db (aY A))) (nI boy) (wI8 1 (o.or (finF (wpF (aY A) boy 0 (aD A)) i (m + 1)))) (wpI (o.or (finF (wpF (aY A) boy 0 (aD A)) i (m + 1)))) (bI c') 2 := by
      intro c1
      have go : ∀ o' : Option Nat, o'.or (finF (wpF (aY A) boy 0 (aD A)) (i + 1) m) = o.or (finF (wpF (aY A) boy 0 (aD A)) i (m + 1)) → ∃ n' c', n' ≤ n + 2 * (m + 1) ∧ FL_law_728 L xs0 rl708 f σ (n + 2) y g l s3 (nI (4 * db (aY A))) (nI boy) (wI8 1 o') (wpI o') (bI c1) (nI (i + 1)) = FL_law_809 L xs0 rl708 FU σ n' y g l s3 (nI (4 * db (aY A))) (nI boy) (wI8 1 (o.or (finF (wpF (aY A) boy 0 (aD A)) i (m + 1)))) (wpI (o.or (finF (wpF (aY A) boy 0 (aD A)) i (m + 1)))) (bI c') 2 := by
        intro o' ho'
        obtain ⟨n', c', q1, q2⟩ := ih (i + 1) f (n + 2) o' c1 (by omega) (by omega) (by omega)
        rw [ho'] at q2
        exact ⟨n', c', by omega, q2⟩
      unfold FL_law_770
      by_cases h : ocI (aY A) boy (aD A) i = 1
      · have hwp := oc_1.mp h
        rw [if_pos h]
        cases o with
        | some p =>
          rw [if_pos (show 0 ≤ wI8 1 (some p) from (by decide : (0 : Int32) ≤ nI 1)), nm_eq, nI_1]
          exact go (some p) rfl
        | none =>
          rw [if_neg (show ¬ 0 ≤ wI8 1 none by decide), dzI_ok (by decide), dzI_ok (by decide), nm_eq, nm_eq, nI_1, num_I (by omega)]
          exact go (some i) (by rw [hfin, hwp, if_pos rfl]; rfl)
      · have hwp : wpF (aY A) boy 0 (aD A) i = false := by
          cases hq : wpF (aY A) boy 0 (aD A) i
          · rfl
          · exact absurd (oc_1.mpr hq) h
        rw [if_neg h, nm_eq, nI_1]
        exact go o (by rw [hfin, hwp, if_neg (by decide)])
    by_cases hc : bI c = 0
    · rw [if_pos hc]
      by_cases h2 : ocI (aY A) boy (aD A) i ≤ -2
      · rw [if_pos h2]; exact k70 false
      · rw [if_neg h2]; exact k70 true
    · rw [if_neg hc]; exact k70 true
/-- both boys, and what is behind them -/
theorem t_708 (hL : L ≤ 260) (hw : Lw A y g l (s3 0)) {n : Nat} (hn : n + 400000 ≤ 600000) {σ : Mem} (hX : RX A σ) : FL_law_708 L xs0 FU σ n y g l s3 (nI (4 * db (aY A))) 0 = some 1 := by
  have h3 := hw.2.2.2.1
  have go : ∀ (boy f n : Nat) (σ : Mem), boy < 2 → n + 40000 ≤ 600000 → RX A σ → ∃ (n' : Nat) (σ' : Mem), n' ≤ n + 40000 ∧ RX A σ' ∧ FL_law_708 L xs0 (f + 1) σ n y g l s3 (nI (4 * db (aY A))) (nI boy) = FL_law_708 L xs0 f σ' n' y g l s3 (nI (4 * db (aY A))) (nI (boy + 1)) := by
    intro boy f n σ hb hn hX
    obtain ⟨n1, c1, q1, q2⟩ := t_728 (L := L) (xs0 := xs0) hw hb (FL_law_708 L xs0 f) σ (4 * db (aY A)) 0 FU n none false (Nat.zero_add _) (by show _ < 10000000; omega) (by omega)
    obtain ⟨n2, σ2, r1, r2, r3⟩ := t_809 (L := L) (xs0 := xs0) hw hb (FL_law_708 L xs0 f) hX n1 (by omega) (bI c1) rfl
    refine ⟨n2, σ2, by omega, r2, ?_⟩
    show BL_law_708 L xs0 (FL_law_708 L xs0 f) σ n y g l s3 (nI (4 * db (aY A))) (nI boy) = _
    unfold BL_law_708
    rw [if_neg (show ¬ (2 : Int32) ≤ nI boy from nI_ge (b := 2) hb (by decide)), ← r3]
    exact q2
  obtain ⟨n1, σ1, a1, a2, a3⟩ := go 0 9999999 n σ (by decide) (by omega) hX
  obtain ⟨n2, σ2, b1, b2, b3⟩ := go 1 9999998 n1 σ1 (by decide) (by omega) a2
  have e1 : FL_law_708 L xs0 FU σ n y g l s3 (nI (4 * db (aY A))) 0 = _ := a3
  have e2 : FL_law_708 L xs0 9999999 σ1 n1 y g l s3 (nI (4 * db (aY A))) (nI (0 + 1)) = _ := b3
  rw [e1, e2]
  show BL_law_708 L xs0 (FL_law_708 L xs0 9999997) σ2 n2 y g l s3 (nI (4 * db (aY A))) (nI 2) = _
  unfold BL_law_708
  rw [if_pos (show (2 : Int32) ≤ nI 2 by decide)]
  by_cases h0 : db (aY A) = 0
  · rw [if_pos (show nI (4 * db (aY A)) ≤ 0 by rw [h0]; decide)]
    exact t_982 hL hw (a := 0) (fun h => by omega) (by omega) b2
  · rw [if_neg (nI_nle (show 0 < 4 * db (aY A) by omega) (by omega))]
    obtain ⟨v, hv⟩ := cell_tot L hL xs0 8 (by decide)
    obtain ⟨r, hr, hq⟩ := low_q v (B := 4 * db (aY A)) (by omega) (by omega)
    rw [show FL_cell L xs0 (8 : Int32) = some v from hv, bn_some, hq, bn_some]
    exact t_982 hL hw (fun _ => hr) (by omega) b2
end LW

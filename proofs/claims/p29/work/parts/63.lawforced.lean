/-! ===== the law's forced games; free cells; where all lie at first ===== -/
theorem oc_cases {Y : Yd} {boy : Nat} {D : Dy} {p : Nat} : (gsF Y D p = false ∧ ocI Y boy D p = -2) ∨ (gsF Y D p = true ∧ hgt (pp Y T0 D p) = some boy ∧ ocI Y boy D p = 1) ∨ (gsF Y D p = true ∧ hgt (pp Y T0 D p) = none ∧ ocI Y boy D p = 0) ∨ (gsF Y D p = true ∧ hgt (pp Y T0 D p) ≠ some boy ∧ hgt (pp Y T0 D p) ≠ none ∧ ocI Y boy D p = -1) := by
  unfold ocI
  cases gsF Y D p
  · exact .inl ⟨rfl, if_neg (by decide)⟩
  · rw [if_pos rfl]
    by_cases h : hgt (pp Y T0 D p) = some boy
    · exact .inr (.inl ⟨rfl, h, if_pos h⟩)
    · rw [if_neg h]
      by_cases h2 : hgt (pp Y T0 D p) = none
      · exact .inr (.inr (.inl ⟨rfl, h2, if_pos h2⟩))
      · exact .inr (.inr (.inr ⟨rfl, h, h2, if_neg h2⟩))
theorem f152 {Y : Yd} (hY : WFY Y) {yy gg : Nat → Int32} (hL : LawY Y yy gg) {D : Dy} (hD : WFD Y D) {ll A3 : Nat → Int32} {A4 : Nat → Int64} (hE : EncM Y D A3 (A4 0)) {boy : Nat} (hb : boy < 2) (hno : ∀ q, q < 4 * db Y → gsF Y D q = false) (r : Int32) : ∀ (m i fuel n : Nat), i + m = 4 * db Y → m < fuel → n + 2 * m ≤ 1000 → FL_forced_152 yy gg ll fuel n A3 A4 (nI boy) r (nI (4 * db Y)) 0 (nI i) = some 0 := by
  have h6 := hY.2.1
  intro m
  induction m with
  | zero =>
    intro i fuel n hi hf hn
    obtain ⟨f, rfl⟩ : ∃ f, fuel = f + 1 := ⟨fuel - 1, by omega⟩
    show BL_forced_152 yy gg ll (FL_forced_152 yy gg ll f) n A3 A4 (nI boy) r (nI (4 * db Y)) 0 (nI i) = _
    unfold BL_forced_152
    rw [if_pos (nI_le (by omega) (by omega))]
  | succ m ih =>
    intro i fuel n hi hf hn
    obtain ⟨f, rfl⟩ : ∃ f, fuel = f + 1 := ⟨fuel - 1, by omega⟩
    show BL_forced_152 yy gg ll (FL_forced_152 yy gg ll f) n A3 A4 (nI boy) r (nI (4 * db Y)) 0 (nI i) = _
    unfold BL_forced_152
    rw [if_neg (nI_ge (by omega) (by omega))]
    by_cases h2 : r ≤ 2
    · rw [if_pos h2]
    · have ho : ocI Y boy D i = -2 := by
        unfold ocI
        rw [hno i (by omega), if_neg (by decide)]
      rw [if_neg h2, if_pos rfl, rd0 (by decide) (by decide), al_in (by omega), oc_eq hY hL hD hE (by omega) hb, bn_some, ho, if_neg (by decide), nm_eq, nI_1]
      exact ih (i + 1) f (n + 2) (by omega) (by omega) (by omega)
theorem f47 {Y : Yd} (hY : WFY Y) (h3 : db Y ≤ 3) {yy gg : Nat → Int32} (hL : LawY Y yy gg) {D : Dy} (hD : WFD Y D) {ll A3 : Nat → Int32} {A4 : Nat → Int64} (hE : EncM Y D A3 (A4 0)) {boy : Nat} (hb : boy < 2) {r : Nat} (hr : r < 2) : ∀ (m i fuel n : Nat) (any : Bool), i + m = 4 * db Y → m < fuel → n + 62 * m + 100 ≤ 1000 → (any = false → ∀ q, q < i → gsF Y D q = false) → FL_forced_47 yy gg ll fuel n A3 A4 (nI boy) (nI (r + 2)) (nI (4 * db Y)) (bI any) (nI i) = some (bI ((any || anyF (gsF Y D) i m) && !anyF (wwF Y boy r D) i m)) := by
  have h6 := hY.2.1
  intro m
  induction m with
  | zero =>
    intro i fuel n any hi hf hn hno
    obtain ⟨f, rfl⟩ : ∃ f, fuel = f + 1 := ⟨fuel - 1, by omega⟩
    show BL_forced_47 yy gg ll (FL_forced_47 yy gg ll f) n A3 A4 (nI boy) (nI (r + 2)) (nI (4 * db Y)) (bI any) (nI i) = some (bI ((any || false) && !false))
    unfold BL_forced_47
    rw [if_pos (nI_le (by omega) (by omega))]
    cases any
    · rw [if_pos (show bI false = 0 from rfl)]
      exact f152 hY hL hD hE hb (fun q hq => hno rfl q (by omega)) _ (4 * db Y) 0 FU n (by omega) (by show _ < 10000000; omega) (by omega)
    · rw [if_neg (show ¬ bI true = 0 by decide)]
      rfl
  | succ m ih =>
    intro i fuel n any hi hf hn hno
    obtain ⟨f, rfl⟩ : ∃ f, fuel = f + 1 := ⟨fuel - 1, by omega⟩
    show BL_forced_47 yy gg ll (FL_forced_47 yy gg ll f) n A3 A4 (nI boy) (nI (r + 2)) (nI (4 * db Y)) (bI any) (nI i) = _
    unfold BL_forced_47 anyF
    rw [if_neg (nI_ge (by omega) (by omega)), rd0 (by decide) (by decide), al_in (by omega), oc_eq hY hL hD hE (by omega) hb, bn_some]
    -- what a push comes to, and on
    have on : ∀ (n' : Nat), n' ≤ n + 62 → FL_forced_47 yy gg ll f n' A3 A4 (nI boy) (nI (r + 2)) (nI (4 * db Y)) (bI (any || gsF Y D i)) (nI (i + 1)) = some (bI (((any || gsF Y D i) || anyF (gsF Y D) (i + 1) m) && !anyF (wwF Y boy r D) (i + 1) m)) := fun n' hn' => ih (i + 1) f n' (any || gsF Y D i) (by omega) (by omega) (by omega) (fun h q hq => by
      rw [Bool.or_eq_false_iff] at h
      by_cases e : q = i
      · rw [e]; exact h.2
      · exact hno h.1 q (by omega))
    have m89 : FL_forced_89 yy gg ll (FL_forced_47 yy gg ll f) (n + 2) A3 A4 (nI boy) (nI (r + 2)) (nI (4 * db Y)) (nI i) (ocI Y boy D i) (bI (any || gsF Y D i)) = some (bI ((any || (gsF Y D i || anyF (gsF Y D) (i + 1) m)) && !(wwF Y boy r D i || anyF (wwF Y boy r D) (i + 1) m))) := by
      unfold FL_forced_89 FL_forced_110
      rw [← Bool.or_assoc]
      have hww : wwF Y boy r D i = (gsF Y D i && !(decide (hgt (pp Y T0 D i) = some boy) || (decide (hgt (pp Y T0 D i) = none) && vl Y boy r true (pp Y T0 D i).1))) := rfl
      rcases oc_cases (Y := Y) (boy := boy) (D := D) (p := i) with ⟨g1, g2⟩ | ⟨g1, g2, g3⟩ | ⟨g1, g2, g3⟩ | ⟨g1, g2, g3, g4⟩
      · rw [g2, hww, g1, if_neg (show ¬ (-2 : Int32) = -1 by decide), if_neg (show ¬ (-2 : Int32) = 0 by decide), if_neg (show ¬ (-2 : Int32) = 0 by decide), nm_eq, nI_1, Bool.false_and, Bool.false_or, ← g1]
        exact on (n + 2) (by omega)
      · rw [g3, hww, g1, g2, if_neg (show ¬ (1 : Int32) = -1 by decide), if_neg (show ¬ (1 : Int32) = 0 by decide), if_neg (show ¬ (1 : Int32) = 0 by decide), nm_eq, nI_1, decide_eq_true rfl, Bool.true_or, Bool.true_and, Bool.not_true, Bool.false_or, ← g1]
        exact on (n + 2) (by omega)
      · have hnb : ¬ (none : Option Nat) = some boy := by intro z; cases z
        rw [g3, hww, g1, g2, if_neg (show ¬ (0 : Int32) = -1 by decide), if_pos rfl, decide_eq_false hnb, decide_eq_true rfl, Bool.false_or, Bool.true_and, Bool.true_and, if_pos rfl]
        rcases (show r = 0 ∨ r = 1 by omega) with rfl | rfl
        · rw [if_pos (show nI (0 + 2) = (2 : Int32) from rfl)]
          show some 0 = some (bI (_ && !(!false || _)))
          rw [Bool.not_false, Bool.true_or, Bool.not_true, Bool.and_false]
          rfl
        · rw [if_neg (show ¬ nI (1 + 2) = (2 : Int32) by decide), rd0 (by decide) (by decide), al_in (by omega), wins_q hY h3 hL hD hE (by omega) hb]
          show (if bI (vl Y boy 1 true (pp Y T0 D i).1) = 0 ∨ bI (vl Y boy 1 true (pp Y T0 D i).1) = 1 then (if bI (vl Y boy 1 true (pp Y T0 D i).1) = 0 then some (0 : Int32) else nm (nI i + 1) fun x_32 => FL_forced_47 yy gg ll f (n + 2 + 60) A3 A4 (nI boy) (nI (1 + 2)) (nI (4 * db Y)) (bI (any || true)) x_32) else none) = _
          cases vl Y boy 1 true (pp Y T0 D i).1
          · rw [if_pos (.inl rfl), if_pos (show bI false = 0 from rfl), Bool.not_false, Bool.true_or, Bool.not_true, Bool.and_false]
            rfl
          · rw [if_pos (.inr rfl), if_neg (by decide), nm_eq, nI_1, Bool.not_true, Bool.false_or, ← g1]
            exact on (n + 2 + 60) (by omega)
      · rw [g4, hww, g1, if_pos rfl, decide_eq_false g2, decide_eq_false g3, Bool.false_or, Bool.false_and, Bool.not_false, Bool.and_true, Bool.true_or, Bool.not_true, Bool.and_false]
        rfl
    cases any
    · rw [if_pos (show bI false = 0 from rfl)]
      rw [Bool.false_or] at m89
      rcases oc_cases (Y := Y) (boy := boy) (D := D) (p := i) with ⟨g1, g2⟩ | ⟨g1, g2, g3⟩ | ⟨g1, g2, g3⟩ | ⟨g1, g2, g3, g4⟩
      · rw [if_pos (show ocI Y boy D i ≤ -2 by rw [g2]; decide)]
        have hz : bI (gsF Y D i) = 0 := by rw [g1]; rfl
        rw [hz] at m89
        exact m89
      · rw [if_neg (show ¬ ocI Y boy D i ≤ -2 by rw [g3]; decide)]
        have hz : bI (gsF Y D i) = 1 := by rw [g1]; rfl
        rw [hz] at m89
        exact m89
      · rw [if_neg (show ¬ ocI Y boy D i ≤ -2 by rw [g3]; decide)]
        have hz : bI (gsF Y D i) = 1 := by rw [g1]; rfl
        rw [hz] at m89
        exact m89
      · rw [if_neg (show ¬ ocI Y boy D i ≤ -2 by rw [g4]; decide)]
        have hz : bI (gsF Y D i) = 1 := by rw [g1]; rfl
        rw [hz] at m89
        exact m89
    · rw [if_neg (show ¬ bI true = 0 by decide)]
      exact m89
theorem forced_q {Y : Yd} (hY : WFY Y) (h3 : db Y ≤ 3) {yy gg : Nat → Int32} (hL : LawY Y yy gg) {D : Dy} (hD : WFD Y D) {ll : Nat → Int32} {a3 : Int64} (hE : EncM Y D ll a3) {p boy r : Nat} (hp : p < 4 * db Y) (hb : boy < 2) (hr : r < 2) : FL_forced yy gg ll 0 a3 (nI p) (nI boy) (nI (r + 2)) = some (bI (vl Y boy (r + 1) false (pp Y T0 D p).1)) := by
  obtain ⟨o, l', s', c1, c2, c3⟩ := cp_push hY (t0_ok Y) hL hD (s := vp_updL zL 0 a3) (by rw [z0]; exact hE) (z2 a3) hp
  have hP := pu_ok hY (T := T0) hD (k := p / 4) (d := p % 4) (by omega)
  unfold FL_forced
  rw [rd2 (by decide) (by decide), hL.2.2.1, show (4 : Int32) * nI (db Y) = nI (4 * db Y) by rw [show (4 : Int32) = nI 4 from rfl, pk_mul], nm_eq, c1, bn_some, al_in (by decide), al_in (by decide), stB0 (by decide) (by decide), dzI_ok (by decide), dzI_ok (by decide), c2, bn_some]
  have := f47 hY h3 hL hP.1 (ll := ll) c3.1 hb hr (4 * db Y) 0 FU (0 + 1 + 1) false (by omega) (by show _ < 10000000; omega) (by omega) (fun _ q hq => by omega)
  rw [vl_f]
  rw [Bool.false_or] at this
  exact this
theorem free_q {Y : Yd} (hY : WFY Y) {yy gg : Nat → Int32} (hL : LawY Y yy gg) {D : Dy} (hD : WFD Y D) {ll : Nat → Int32} {f : Int64} (hE : EncM Y D ll f) {c : Nat} (hc : c < dn Y) : FL_free gg ll (nI c) = some (if dg Y c = 0 ∧ blkD Y D c = none then 1 else 0) := by
  have h36 := dn_le hY
  have hge := hY.2.2.1 c hc
  unfold FL_free
  rw [rd_in (by omega) (by decide), hL.2.2.2.2.2 c hc]
  by_cases h : dg Y c = 0
  · rw [h, if_pos (show nI 0 = 0 from rfl), who_eq hY hD hE.1 hc, bn_some]
    cases hb : blkD Y D c with
    | none => rw [if_neg (show ¬ 0 ≤ whI none by decide), if_pos ⟨rfl, rfl⟩]
    | some k =>
      have := (blkD_lt hb).1
      have h6 := hY.2.1
      rw [if_pos (show 0 ≤ whI (some k) from nI_pos' (by omega)), if_neg (fun z => by cases z.2)]
  · rw [if_neg (show ¬ nI (dg Y c) = 0 from fun z => h ((nI_eq (b := 0) (by omega) (by decide)).mp z)), if_neg (fun z => h z.1)]
theorem begun_loop {Y : Yd} (hY : WFY Y) (h0 : pad Y = 36) {yy gg : Nat → Int32} (hL : LawY Y yy gg) : ∀ (m i fuel n : Nat) (A : Nat → Int32), i + m = 6 → m < fuel → (∀ k, k < i → A k = plM Y (D0 Y) k) → ∃ A', FL_begun_7 yy fuel n A (nI i) = some A' ∧ ∀ k, k < 6 → A' k = plM Y (D0 Y) k := by
  have h6 := hY.2.1
  intro m
  induction m with
  | zero =>
    intro i fuel n A hi hf hA
    obtain ⟨f, rfl⟩ : ∃ f, fuel = f + 1 := ⟨fuel - 1, by omega⟩
    refine ⟨A, ?_, fun k hk => hA k (by omega)⟩
    show BL_begun_7 yy (FL_begun_7 yy f) n A (nI i) = _
    unfold BL_begun_7
    rw [if_pos (show (6 : Int32) ≤ nI i from nI_le (a := 6) (by omega) (by omega))]
  | succ m ih =>
    intro i fuel n A hi hf hA
    obtain ⟨f, rfl⟩ : ∃ f, fuel = f + 1 := ⟨fuel - 1, by omega⟩
    have un : FL_begun_7 yy (f + 1) n A (nI i) = FL_begun_7 yy f n (upd A i (plM Y (D0 Y) i)) (nI (i + 1)) := by
      show BL_begun_7 yy (FL_begun_7 yy f) n A (nI i) = _
      unfold BL_begun_7
      rw [if_neg (show ¬ (6 : Int32) ≤ nI i from nI_ge (b := 6) (by omega) (by decide)), rd2 (by decide) (by decide), hL.2.2.1]
      by_cases hib : i < db Y
      · have h36 := dn_le hY
        have hds := (hY.2.2.2.2 i hib).2
        rw [if_neg (nI_ge hib (by omega)), show (10 : Int32) + nI i = nI (10 + i) by rw [show (10 : Int32) = nI 10 from rfl, nI_add], rd_in (by omega) (by decide), stA_in (by omega) (by decide), nm_eq, nI_1, hL.2.2.2.2.1 i hib, plM_in hib, show (D0 Y).1 i = ds Y i from rfl, lie_in (by omega)]
      · rw [if_pos (nI_le (by omega) (by omega)), stA_in (by omega) (by decide), nm_eq, nI_1]
        have : plM Y (D0 Y) i = -6 := by unfold plM; rw [if_neg hib, h0]; rfl
        rw [this]
    rw [un]
    refine ih (i + 1) f n _ (by omega) (by omega) (fun k hk => ?_)
    by_cases e : k = i
    · subst e; rw [upd_eq]
    · rw [upd_ne e]; exact hA k (by omega)
theorem begun_q {Y : Yd} (hY : WFY Y) (h0 : pad Y = 36) {yy gg : Nat → Int32} (hL : LawY Y yy gg) : ∃ A', FL_begun yy 0 = some A' ∧ EncM Y (D0 Y) A' 0 := by
  unfold FL_begun
  rw [al_in (by decide)]
  obtain ⟨A', e1, e2⟩ := begun_loop hY h0 hL 6 0 FU 1 zI rfl (by show 6 < 10000000; omega) (fun k hk => by omega)
  refine ⟨A', e1, e2, fun i => ?_⟩
  rw [w_0]
  show false = (decide (i < dn Y) && dg Y i == 3 && false)
  rw [Bool.and_false]

/-! ===== games: the abstract; the class ===== -/
def hgt (r : PR) : Option Nat := r.2.2.map (fun g => g.2)
/-- won within r pushes by the boy; o: it is his turn -/
def vl (Y : Yd) (boy : Nat) : Nat → Bool → Dy → Bool
  | 0, _, _ => false
  | r + 1, true, D => anyF (fun p => anyT Y (pp Y T0 D p).2.1 && (decide (hgt (pp Y T0 D p) = some boy) || (decide (hgt (pp Y T0 D p) = none) && vl Y boy r false (pp Y T0 D p).1))) 0 (4 * db Y)
  | r + 1, false, D => anyF (fun p => anyT Y (pp Y T0 D p).2.1) 0 (4 * db Y) && !anyF (fun p => anyT Y (pp Y T0 D p).2.1 && !(decide (hgt (pp Y T0 D p) = some boy) || (decide (hgt (pp Y T0 D p) = none) && vl Y boy r true (pp Y T0 D p).1))) 0 (4 * db Y)
def gsF (Y : Yd) (D : Dy) (p : Nat) : Bool := anyT Y (pp Y T0 D p).2.1
def vlP (Y : Yd) (boy r : Nat) (o : Bool) (D : Dy) (p : Nat) : Bool := decide (hgt (pp Y T0 D p) = some boy) || (decide (hgt (pp Y T0 D p) = none) && vl Y boy r o (pp Y T0 D p).1)
def wpF (Y : Yd) (boy r : Nat) (D : Dy) (p : Nat) : Bool := gsF Y D p && vlP Y boy r false D p
def wwF (Y : Yd) (boy r : Nat) (D : Dy) (p : Nat) : Bool := gsF Y D p && !vlP Y boy r true D p
theorem vl_t (Y : Yd) (boy r : Nat) (D : Dy) : vl Y boy (r + 1) true D = anyF (wpF Y boy r D) 0 (4 * db Y) := rfl
theorem vl_f (Y : Yd) (boy r : Nat) (D : Dy) : vl Y boy (r + 1) false D = (anyF (gsF Y D) 0 (4 * db Y) && !anyF (wwF Y boy r D) 0 (4 * db Y)) := rfl
theorem finF_any {f : Nat → Bool} : ∀ {m p : Nat}, (finF f p m).isSome = anyF f p m := by
  intro m
  induction m with
  | zero => intro p; rfl
  | succ m ih =>
    intro p
    unfold finF anyF
    cases f p
    · rw [if_neg (by decide), Bool.false_or, ih]
    · rfl
def wpI (o : Option Nat) : Int32 := match o with
  | none => -9
  | some p => nI (num p)
theorem hgt_1 {r : PR} {boy : Nat} (hb : boy < 2) (hg : ∀ g, r.2.2 = some g → g.2 < 2) : hgI r.2.2 = nI boy ↔ hgt r = some boy := by
  unfold hgt
  cases h : r.2.2 with
  | none =>
    constructor
    · intro z; exact absurd z.symm (nI_ne_m1 (by omega))
    · intro z; cases z
  | some g =>
    have := hg g h
    show nI g.2 = nI boy ↔ some g.2 = some boy
    rw [nI_eq (by omega) (by omega)]
    constructor
    · intro z; rw [z]
    · intro z; cases z; rfl
theorem hgt_0 {r : PR} (hg : ∀ g, r.2.2 = some g → g.2 < 2) : 0 ≤ hgI r.2.2 ↔ hgt r ≠ none := by
  unfold hgt
  cases h : r.2.2 with
  | none => exact ⟨(fun z => absurd z nle_m1), (fun z => absurd rfl z)⟩
  | some g =>
    have := hg g h
    exact ⟨(fun _ z => by cases z), (fun _ => nI_pos' (by omega))⟩
theorem wpx_loop {Y : Yd} (hY : WFY Y) {D : Dy} (hD : WFD Y D) {y : Int64} (hy : EncX Y D y) {boy r : Nat} (hb2 : boy < 2) (hr : r < 50) (rc : Mem → Int64 → Int32 → Int32 → Option (Int32 × Mem)) (hrc : 0 < r → ∀ (D' : Dy) (y' : Int64) (σ : Mem), WFD Y D' → EncX Y D' y' → InX Y T0 σ → ∃ σ', rc σ y' (nI boy) (nI r) = some (bI (vl Y boy r false D'), σ') ∧ InX Y T0 σ' ∧ KpX σ σ') : ∀ (m b d f1 f2 : Nat) (σ : Mem), 4 * b + d + m = 4 * db Y → b < db Y → d < 4 → db Y ≤ b + f1 → 4 < d + f2 → InX Y T0 σ → ∃ σ', FX0_winningPush_33 rc (FX0_winningPush_18 rc f1) f2 σ y (nI boy) (nI (r + 1)) (nI b) (nI d) = some (wpI (finF (wpF Y boy r D) (4 * b + d) m), σ') ∧ InX Y T0 σ' ∧ KpX σ σ' := by
  have h6 := hY.2.1
  intro m
  induction m with
  | zero => intro b d f1 f2 σ h1 h2; omega
  | succ m ih =>
    intro b d f1 f2 σ hm hb hd hf1 hf2 hI
    obtain ⟨f, rfl⟩ : ∃ f, f2 = f + 1 := ⟨f2 - 1, by omega⟩
    obtain ⟨σ1, g1, g2, g3, g4, g5, g6, g7, g8, g9⟩ := gox hY (t0_ok Y) hD hI hy hb hd
    have hpp : pp Y T0 D (4 * b + d) = pushD Y T0 D b d := by show pushD Y T0 D ((4 * b + d) / 4) ((4 * b + d) % 4) = _; rw [show (4 * b + d) / 4 = b by omega, show (4 * b + d) % 4 = d by omega]
    have nxt_ : ∀ σ2, InX Y T0 σ2 → KpX σ σ2 → ∃ σ', FX0_winningPush_33 rc (FX0_winningPush_18 rc f1) f σ2 y (nI boy) (nI (r + 1)) (nI b) (nI (d + 1)) = some (wpI (finF (wpF Y boy r D) (4 * b + d + 1) m), σ') ∧ InX Y T0 σ' ∧ KpX σ σ' := by
      intro σ2 hI2 hK2
      by_cases hd3 : d + 1 < 4
      · obtain ⟨σ', r1, r2, r3⟩ := ih b (d + 1) f1 f σ2 (by omega) hb hd3 hf1 (by omega) hI2
        exact ⟨σ', r1, r2, kpx_trans hK2 r3⟩
      · obtain ⟨f', rfl⟩ : ∃ f', f = f' + 1 := ⟨f - 1, by omega⟩
        obtain ⟨f0, rfl⟩ : ∃ f0, f1 = f0 + 1 := ⟨f1 - 1, by omega⟩
        have hde : d + 1 = 4 := by omega
        have e1 : FX0_winningPush_33 rc (FX0_winningPush_18 rc (f0 + 1)) (f' + 1) σ2 y (nI boy) (nI (r + 1)) (nI b) (nI (d + 1)) = FX0_winningPush_18 rc (f0 + 1) σ2 y (nI boy) (nI (r + 1)) (nI (b + 1)) := by
          show BX0_winningPush_33 rc _ _ σ2 y _ _ _ (nI (d + 1)) = _
          unfold BX0_winningPush_33
          rw [hde, if_pos (show (4 : Int32) ≤ nI 4 by decide), nm_eq, nI_1]
        rw [e1]
        by_cases hb1 : b + 1 < db Y
        · have e2 : FX0_winningPush_18 rc (f0 + 1) σ2 y (nI boy) (nI (r + 1)) (nI (b + 1)) = FX0_winningPush_33 rc (FX0_winningPush_18 rc f0) FU σ2 y (nI boy) (nI (r + 1)) (nI (b + 1)) (nI 0) := by
            show BX0_winningPush_18 rc (FX0_winningPush_18 rc f0) σ2 y _ _ _ = _
            unfold BX0_winningPush_18
            rw [hI2.1.2.2.1, if_neg (nI_ge hb1 (by omega))]
            rfl
          rw [e2]
          obtain ⟨σ', r1, r2, r3⟩ := ih (b + 1) 0 f0 FU σ2 (by omega) hb1 (by omega) (by omega) (by show 4 < 0 + 10000000; omega) hI2
          rw [show 4 * (b + 1) + 0 = 4 * b + d + 1 by omega] at r1
          exact ⟨σ', r1, r2, kpx_trans hK2 r3⟩
        · have hm0 : m = 0 := by omega
          subst hm0
          refine ⟨σ2, ?_, hI2, hK2⟩
          show BX0_winningPush_18 rc (FX0_winningPush_18 rc f0) σ2 y _ _ _ = _
          unfold BX0_winningPush_18
          rw [hI2.1.2.2.1, if_pos (nI_le (by omega) (by omega))]
          rfl
    have un : FX0_winningPush_33 rc (FX0_winningPush_18 rc f1) (f + 1) σ y (nI boy) (nI (r + 1)) (nI b) (nI d) = BX0_winningPush_33 rc (FX0_winningPush_18 rc f1) (FX0_winningPush_33 rc (FX0_winningPush_18 rc f1) f) σ y (nI boy) (nI (r + 1)) (nI b) (nI d) := rfl
    have hpn : ∀ σ2 : Mem, (bi (FX8_pushNumber σ2 (nI b) (nI d)) fun r20 σ19 => some (r20, σ19)) = some (nI (num (4 * b + d)), σ2) := fun σ2 => by
      unfold FX8_pushNumber
      rw [bi_some, show (10 : Int32) * nI b + nI d = nI (num (4 * b + d)) by rw [show (10 : Int32) = nI 10 from rfl, pk_mul, nI_add, num_eq hd]]
    rw [un]
    unfold BX0_winningPush_33 finF
    rw [if_neg (show ¬ (4 : Int32) ≤ nI d from nI_ge (b := 4) hd (by decide)), g1, bi_some]
    have hF : wpF Y boy r D (4 * b + d) = (anyT Y (pushD Y T0 D b d).2.1 && (decide (hgt (pushD Y T0 D b d) = some boy) || (decide (hgt (pushD Y T0 D b d) = none) && vl Y boy r false (pushD Y T0 D b d).1))) := by
      unfold wpF gsF vlP
      rw [hpp]
    rw [hF]
    have h1 := hgt_1 (r := pushD Y T0 D b d) hb2 (fun g hg => (g9 g hg).2)
    have h0 := hgt_0 (r := pushD Y T0 D b d) (fun g hg => (g9 g hg).2)
    rw [← g7] at h1 h0
    cases ha : anyT Y (pushD Y T0 D b d).2.1
    · rw [if_neg (show ¬ false = true by decide), if_pos rfl, nm_eq, nI_1, Bool.false_and, if_neg (show ¬ false = true by decide)]
      exact nxt_ σ1 g2 g3
    · rw [if_pos rfl, if_neg (show ¬ (1 : Int32) = 0 by decide), nm_eq, Bool.true_and]
      by_cases e1 : hgt (pushD Y T0 D b d) = some boy
      · rw [if_pos (h1.mpr e1), hpn, decide_eq_true e1, Bool.true_or, if_pos rfl]
        exact ⟨σ1, rfl, g2, g3⟩
      · rw [if_neg (fun z => e1 (h1.mp z)), decide_eq_false e1, Bool.false_or]
        by_cases e0 : hgt (pushD Y T0 D b d) = none
        · rw [if_neg (fun z => h0.mp z e0), decide_eq_true e0, Bool.true_and]
          by_cases hr0 : r = 0
          · subst hr0
            rw [if_pos (show nI (0 + 1) ≤ (1 : Int32) by decide), nm_eq, nI_1]
            exact nxt_ σ1 g2 g3
          · rw [if_neg (show ¬ nI (r + 1) ≤ (1 : Int32) from nI_ge (a := 1) (by omega) (by omega)), nI_pred]
            obtain ⟨σ2, c1, c2, c3⟩ := hrc (by omega) (pushD Y T0 D b d).1 (σ1.2 2 6) σ1 g8 g4 g2
            rw [c1, bi_some]
            cases hv : vl Y boy r false (pushD Y T0 D b d).1
            · rw [if_pos (show bI false = 0 from rfl), nm_eq, nI_1, if_neg (show ¬ false = true by decide)]
              exact nxt_ σ2 c2 (kpx_trans g3 c3)
            · rw [if_neg (show ¬ bI true = 0 by decide), hpn, if_pos rfl]
              exact ⟨σ2, rfl, c2, kpx_trans g3 c3⟩
        · rw [if_pos (h0.mpr e0), nm_eq, nI_1, decide_eq_false e0, Bool.false_and, if_neg (show ¬ false = true by decide)]
          exact nxt_ σ1 g2 g3
theorem wwx_loop {Y : Yd} (hY : WFY Y) {D : Dy} (hD : WFD Y D) {y : Int64} (hy : EncX Y D y) {boy r : Nat} (hb2 : boy < 2) (hr : r < 50) (rc : Mem → Int64 → Int32 → Int32 → Option (Int32 × Mem)) (hrc : ∀ (D' : Dy) (y' : Int64) (σ : Mem), WFD Y D' → EncX Y D' y' → InX Y T0 σ → ∃ (σ' : Mem) (v : Int32), rc σ y' (nI boy) (nI r) = some (v, σ') ∧ (0 ≤ v ↔ vl Y boy r true D' = true) ∧ InX Y T0 σ' ∧ KpX σ σ') : ∀ (m b d f1 f2 : Nat) (cp : Bool) (σ : Mem), 4 * b + d + m = 4 * db Y → b < db Y → d < 4 → db Y ≤ b + f1 → 4 < d + f2 → InX Y T0 σ → ∃ σ', FX0_winsWhateverComes_21 rc (FX0_winsWhateverComes_6 rc f1) f2 σ y (nI boy) (nI (r + 1)) (bI cp) (nI b) (nI d) = some (bI ((cp || anyF (gsF Y D) (4 * b + d) m) && !anyF (wwF Y boy r D) (4 * b + d) m), σ') ∧ InX Y T0 σ' ∧ KpX σ σ' := by
  have h6 := hY.2.1
  intro m
  induction m with
  | zero => intro b d f1 f2 cp σ h1 h2; omega
  | succ m ih =>
    intro b d f1 f2 cp σ hm hb hd hf1 hf2 hI
    obtain ⟨f, rfl⟩ : ∃ f, f2 = f + 1 := ⟨f2 - 1, by omega⟩
    obtain ⟨σ1, g1, g2, g3, g4, g5, g6, g7, g8, g9⟩ := gox hY (t0_ok Y) hD hI hy hb hd
    have hpp : pp Y T0 D (4 * b + d) = pushD Y T0 D b d := by show pushD Y T0 D ((4 * b + d) / 4) ((4 * b + d) % 4) = _; rw [show (4 * b + d) / 4 = b by omega, show (4 * b + d) % 4 = d by omega]
    have nxt_ : ∀ (cp : Bool) (σ2 : Mem), InX Y T0 σ2 → KpX σ σ2 → ∃ σ', FX0_winsWhateverComes_21 rc (FX0_winsWhateverComes_6 rc f1) f σ2 y (nI boy) (nI (r + 1)) (bI cp) (nI b) (nI (d + 1)) = some (bI ((cp || anyF (gsF Y D) (4 * b + d + 1) m) && !anyF (wwF Y boy r D) (4 * b + d + 1) m), σ') ∧ InX Y T0 σ' ∧ KpX σ σ' := by
      intro cp σ2 hI2 hK2
      by_cases hd3 : d + 1 < 4
      · obtain ⟨σ', r1, r2, r3⟩ := ih b (d + 1) f1 f cp σ2 (by omega) hb hd3 hf1 (by omega) hI2
        exact ⟨σ', r1, r2, kpx_trans hK2 r3⟩
      · obtain ⟨f', rfl⟩ : ∃ f', f = f' + 1 := ⟨f - 1, by omega⟩
        obtain ⟨f0, rfl⟩ : ∃ f0, f1 = f0 + 1 := ⟨f1 - 1, by omega⟩
        have hde : d + 1 = 4 := by omega
        have e1 : FX0_winsWhateverComes_21 rc (FX0_winsWhateverComes_6 rc (f0 + 1)) (f' + 1) σ2 y (nI boy) (nI (r + 1)) (bI cp) (nI b) (nI (d + 1)) = FX0_winsWhateverComes_6 rc (f0 + 1) σ2 y (nI boy) (nI (r + 1)) (bI cp) (nI (b + 1)) := by
          show BX0_winsWhateverComes_21 rc _ _ σ2 y _ _ _ _ (nI (d + 1)) = _
          unfold BX0_winsWhateverComes_21
          rw [hde, if_pos (show (4 : Int32) ≤ nI 4 by decide), nm_eq, nI_1]
        rw [e1]
        by_cases hb1 : b + 1 < db Y
        · have e2 : FX0_winsWhateverComes_6 rc (f0 + 1) σ2 y (nI boy) (nI (r + 1)) (bI cp) (nI (b + 1)) = FX0_winsWhateverComes_21 rc (FX0_winsWhateverComes_6 rc f0) FU σ2 y (nI boy) (nI (r + 1)) (bI cp) (nI (b + 1)) (nI 0) := by
            show BX0_winsWhateverComes_6 rc (FX0_winsWhateverComes_6 rc f0) σ2 y _ _ _ _ = _
            unfold BX0_winsWhateverComes_6
            rw [hI2.1.2.2.1, if_neg (nI_ge hb1 (by omega))]
            rfl
          rw [e2]
          obtain ⟨σ', r1, r2, r3⟩ := ih (b + 1) 0 f0 FU cp σ2 (by omega) hb1 (by omega) (by omega) (by show 4 < 0 + 10000000; omega) hI2
          rw [show 4 * (b + 1) + 0 = 4 * b + d + 1 by omega] at r1
          exact ⟨σ', r1, r2, kpx_trans hK2 r3⟩
        · have hm0 : m = 0 := by omega
          subst hm0
          refine ⟨σ2, ?_, hI2, hK2⟩
          show BX0_winsWhateverComes_6 rc (FX0_winsWhateverComes_6 rc f0) σ2 y _ _ _ _ = some (bI ((cp || false) && !false), σ2)
          unfold BX0_winsWhateverComes_6
          rw [hI2.1.2.2.1, if_pos (nI_le (by omega) (by omega)), rz_b]
          cases cp <;> rfl
    have un : FX0_winsWhateverComes_21 rc (FX0_winsWhateverComes_6 rc f1) (f + 1) σ y (nI boy) (nI (r + 1)) (bI cp) (nI b) (nI d) = BX0_winsWhateverComes_21 rc (FX0_winsWhateverComes_6 rc f1) (FX0_winsWhateverComes_21 rc (FX0_winsWhateverComes_6 rc f1) f) σ y (nI boy) (nI (r + 1)) (bI cp) (nI b) (nI d) := rfl
    rw [un]
    unfold BX0_winsWhateverComes_21 anyF
    rw [if_neg (show ¬ (4 : Int32) ≤ nI d from nI_ge (b := 4) hd (by decide)), g1, bi_some]
    have hG : gsF Y D (4 * b + d) = anyT Y (pushD Y T0 D b d).2.1 := by unfold gsF; rw [hpp]
    have hF : wwF Y boy r D (4 * b + d) = (anyT Y (pushD Y T0 D b d).2.1 && !(decide (hgt (pushD Y T0 D b d) = some boy) || (decide (hgt (pushD Y T0 D b d) = none) && vl Y boy r true (pushD Y T0 D b d).1))) := by
      unfold wwF gsF vlP
      rw [hpp]
    rw [hG, hF]
    have h1 := hgt_1 (r := pushD Y T0 D b d) hb2 (fun g hg => (g9 g hg).2)
    have h0 := hgt_0 (r := pushD Y T0 D b d) (fun g hg => (g9 g hg).2)
    rw [← g7] at h1 h0
    cases ha : anyT Y (pushD Y T0 D b d).2.1
    · rw [if_neg (show ¬ false = true by decide), if_pos rfl, nm_eq, nI_1, Bool.false_and, Bool.false_or, Bool.false_or]
      exact nxt_ cp σ1 g2 g3
    · rw [if_pos rfl, if_neg (show ¬ (1 : Int32) = 0 by decide), nm_eq, Bool.true_and, Bool.true_or, Bool.or_true, Bool.true_and]
      have nt := nxt_ true
      simp only [Bool.true_or, Bool.true_and] at nt
      by_cases e1 : hgt (pushD Y T0 D b d) = some boy
      · rw [if_pos (h1.mpr e1), nm_eq, nI_1, decide_eq_true e1, Bool.true_or, Bool.not_true, Bool.false_or]
        exact nt σ1 g2 g3
      · rw [if_neg (fun z => e1 (h1.mp z)), decide_eq_false e1, Bool.false_or]
        by_cases e0 : hgt (pushD Y T0 D b d) = none
        · rw [if_neg (fun z => h0.mp z e0), decide_eq_true e0, Bool.true_and]
          rw [nI_pred]
          obtain ⟨σ2, v, c1, c2, c3, c4⟩ := hrc (pushD Y T0 D b d).1 (σ1.2 2 6) σ1 g8 g4 g2
          rw [c1, bi_some]
          cases hv : vl Y boy r true (pushD Y T0 D b d).1
          · rw [if_neg (fun z => by rw [c2, hv] at z; cases z)]
            exact ⟨σ2, rfl, c3, kpx_trans g3 c4⟩
          · rw [if_pos (c2.mpr hv), nm_eq, nI_1, Bool.not_true, Bool.false_or]
            exact nt σ2 c3 (kpx_trans g3 c4)
        · rw [if_pos (h0.mpr e0), decide_eq_false e0, Bool.false_and]
          exact ⟨σ1, rfl, g2, g3⟩
theorem wpI_pos {o : Option Nat} (h : ∀ p, o = some p → p < 1000) : 0 ≤ wpI o ↔ o.isSome = true := by
  cases o with
  | none => exact ⟨(fun z => absurd z (by decide)), (fun z => by cases z)⟩
  | some p =>
    have := h p rfl
    exact ⟨fun _ => rfl, fun _ => nI_pos' (by unfold num; omega)⟩
theorem finF_lt {f : Nat → Bool} : ∀ {m p q : Nat}, finF f p m = some q → p ≤ q ∧ q < p + m ∧ f q = true := by
  intro m
  induction m with
  | zero => intro p q h; cases h
  | succ m ih =>
    intro p q h
    unfold finF at h
    cases hf : f p
    · rw [hf, if_neg (by decide)] at h
      have := ih h
      exact ⟨by omega, by omega, this.2.2⟩
    · rw [hf, if_pos rfl] at h
      cases h
      exact ⟨Nat.le_refl _, by omega, hf⟩
theorem gmx_eq {Y : Yd} (hY : WFY Y) {boy : Nat} (hb2 : boy < 2) : ∀ (r N : Nat), r + 1 < N → r < 4 → ∀ (D : Dy) (y : Int64) (σ : Mem), WFD Y D → EncX Y D y → InX Y T0 σ → (∃ σ', (FRX0_winningPush N).1 σ y (nI boy) (nI (r + 1)) = some (wpI (finF (wpF Y boy r D) 0 (4 * db Y)), σ') ∧ InX Y T0 σ' ∧ KpX σ σ') ∧ (∃ σ', (FRX0_winningPush N).2 σ y (nI boy) (nI (r + 1)) = some (bI (vl Y boy (r + 1) false D), σ') ∧ InX Y T0 σ' ∧ KpX σ σ') := by
  have h6 := hY.2.1
  intro r
  have go : ∀ (r N' : Nat), r < 4 → (0 < r → ∀ (D' : Dy) (y' : Int64) (σ : Mem), WFD Y D' → EncX Y D' y' → InX Y T0 σ → ∃ σ', (FRX0_winningPush N').2 σ y' (nI boy) (nI r) = some (bI (vl Y boy r false D'), σ') ∧ InX Y T0 σ' ∧ KpX σ σ') → (∀ (D' : Dy) (y' : Int64) (σ : Mem), WFD Y D' → EncX Y D' y' → InX Y T0 σ → ∃ (σ' : Mem) (v : Int32), (FRX0_winningPush N').1 σ y' (nI boy) (nI r) = some (v, σ') ∧ (0 ≤ v ↔ vl Y boy r true D' = true) ∧ InX Y T0 σ' ∧ KpX σ σ') → ∀ (D : Dy) (y : Int64) (σ : Mem), WFD Y D → EncX Y D y → InX Y T0 σ → (∃ σ', (FRX0_winningPush (N' + 1)).1 σ y (nI boy) (nI (r + 1)) = some (wpI (finF (wpF Y boy r D) 0 (4 * db Y)), σ') ∧ InX Y T0 σ' ∧ KpX σ σ') ∧ (∃ σ', (FRX0_winningPush (N' + 1)).2 σ y (nI boy) (nI (r + 1)) = some (bI (vl Y boy (r + 1) false D), σ') ∧ InX Y T0 σ' ∧ KpX σ σ') := by
    intro r N' hr h1 h2 D y σ hD hy hI
    rw [FRsX0_winningPush_1, FRsX0_winningPush_2]
    constructor
    · unfold FX0_winningPush
      rw [if_neg (show ¬ nI (r + 1) < (1 : Int32) from nI_nlt (b := 1) (by omega) (by omega)), if_pos (show nI (r + 1) ≤ (4 : Int32) from nI_le (b := 4) (by omega) (by decide))]
      show ∃ σ', BX0_winningPush_18 _ (FX0_winningPush_18 _ 9999999) σ y (nI boy) (nI (r + 1)) (nI 0) = _ ∧ _
      unfold BX0_winningPush_18
      rw [hI.1.2.2.1]
      by_cases hb : db Y = 0
      · rw [hb, if_pos (show nI 0 ≤ nI 0 by decide)]
        exact ⟨σ, rfl, hI, kpx_rfl σ⟩
      · rw [if_neg (nI_ge (by omega) (by omega))]
        exact wpx_loop hY hD hy hb2 (by omega) _ h1 (4 * db Y) 0 0 9999999 FU σ (by omega) (by omega) (by omega) (by omega) (by show 4 < 0 + 10000000; omega) hI
    · show ∃ σ', BX0_winsWhateverComes_6 _ (FX0_winsWhateverComes_6 _ 9999999) σ y (nI boy) (nI (r + 1)) 0 (nI 0) = _ ∧ _
      unfold BX0_winsWhateverComes_6
      rw [hI.1.2.2.1]
      by_cases hb : db Y = 0
      · rw [hb, if_pos (show nI 0 ≤ nI 0 by decide)]
        refine ⟨σ, ?_, hI, kpx_rfl σ⟩
        rw [vl_f, hb]
        rfl
      · rw [if_neg (nI_ge (by omega) (by omega))]
        have := wwx_loop hY hD hy hb2 (r := r) (by omega) _ h2 (4 * db Y) 0 0 9999999 FU false σ (by omega) (by omega) (by omega) (by omega) (by show 4 < 0 + 10000000; omega) hI
        rw [Bool.false_or] at this
        rw [vl_f]
        exact this
  induction r with
  | zero =>
    intro N hN _ D y σ hD hy hI
    obtain ⟨N', rfl⟩ : ∃ N', N = N' + 1 := ⟨N - 1, by omega⟩
    obtain ⟨N1, rfl⟩ : ∃ N1, N' = N1 + 1 := ⟨N' - 1, by omega⟩
    refine go 0 (N1 + 1) (by omega) (fun h => absurd h (Nat.lt_irrefl 0)) (fun D' y' σ hD' hy' hI' => ⟨σ, -9, ?_, ?_, hI', kpx_rfl σ⟩) D y σ hD hy hI
    · rw [FRsX0_winningPush_1]
      unfold FX0_winningPush
      rw [if_pos (show nI 0 < (1 : Int32) by decide)]
    · exact ⟨(fun z => absurd z (by decide)), (fun z => by cases z)⟩
  | succ r ih =>
    intro N hN hr D y σ hD hy hI
    obtain ⟨N', rfl⟩ : ∃ N', N = N' + 1 := ⟨N - 1, by omega⟩
    refine go (r + 1) N' hr (fun _ D' y' σ hD' hy' hI' => (ih N' (by omega) (by omega) D' y' σ hD' hy' hI').2) (fun D' y' σ hD' hy' hI' => ?_) D y σ hD hy hI
    obtain ⟨σ', e1, e2, e3⟩ := (ih N' (by omega) (by omega) D' y' σ hD' hy' hI').1
    refine ⟨σ', _, e1, ?_, e2, e3⟩
    rw [wpI_pos (fun p hp => by have := finF_lt hp; omega), vl_t, finF_any]

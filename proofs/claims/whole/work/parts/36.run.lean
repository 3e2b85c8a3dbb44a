/-! ===== games: the reference's levels run to their end ===== -/
theorem anyF_s (f : Nat → Bool) (p m : Nat) : anyF f p (m + 1) = (f p || anyF f (p + 1) m) := rfl
theorem bv_rz {R : Type} (X : Option Mem) (g : Int32 → Mem → Option R) : bi (bv X fun s => rz 1 s) g = bv X (fun s => g 1 s) := by
  cases X <;> rfl
noncomputable def cnt_ (F l : Nat) (r : Int32) (s : Mem) : Option (Int32 × Mem) := if r = 0 then FX9_hasWon_37 (FX9_hasWon_15 F) s (nI l) else FX9_hasWon_15 F s
theorem hd_t {F l : Nat} (hl : l < 5) {σ : Mem} (h : σ.1 0 41 = nI l) (hd : σ.1 24 l = bI true) : FX9_hasWon_15 (F + 1) σ = FX9_hasWon_37 (FX9_hasWon_15 F) σ (nI l) := by
  show BX9_hasWon_15 (FX9_hasWon_15 F) σ = _
  unfold BX9_hasWon_15
  rw [nm_eq, h, rd_in hl (by decide), hd, if_neg (by decide)]
theorem hd_f {F l : Nat} (hl : l < 5) {σ : Mem} (h : σ.1 0 41 = nI l) (hd : σ.1 24 l = bI false) : FX9_hasWon_15 (F + 1) σ = bi (FX9_tryNext_0 FU σ (nI l)) (cnt_ F l) := by
  show BX9_hasWon_15 (FX9_hasWon_15 F) σ = _
  unfold BX9_hasWon_15
  rw [nm_eq, h, rd_in hl (by decide), hd, if_pos (by decide)]
  rfl
def RunP (Y : Yd) (τ0 : Mem) (n boy r l : Nat) : Prop := ∀ (D : Dy) (τ : Mem) (F : Nat), WFD Y D → GmS Y τ0 n boy τ → Lv τ l 0 false false (!own l) false → τ.1 0 41 = nI l → Held Y D l τ → KK (4 * db Y) r ≤ F →
  ∃ (F' : Nat) (τ' : Mem), FX9_hasWon_15 F τ = FX9_hasWon_37 (FX9_hasWon_15 F') τ' (nI l) ∧ F ≤ F' + KK (4 * db Y) r ∧ GmS Y τ0 n boy τ' ∧ τ'.1 0 41 = nI l ∧ τ'.1 23 l = bI (vl Y boy r (own l) D) ∧ Held Y D l τ' ∧ LoS l τ τ' ∧ (own l = true → ∀ p, finF (wpF Y boy (r - 1) D) 0 (4 * db Y) = some p → τ'.1 20 l = nI (p + 1) ∧ τ'.1 22 l = 0)
theorem desc_ok {Y : Yd} {τ0 : Mem} {n boy r l : Nat} (hn : n ≤ 4) (hl : l + 1 + r = n) (hR : 0 < r → RunP Y τ0 n boy r (l + 1)) {D' : Dy} {σ : Mem} {F : Nat} (hD' : WFD Y D') (hG : GmS Y τ0 n boy σ) (hE : EncM Y D' (σ.1 4) (σ.2 0 8)) (hlev : σ.1 0 41 = nI l) (hF : KK (4 * db Y) r ≤ F) :
    ∃ (F' : Nat) (σ' : Mem), (bv (FX9_descend σ (nI l)) fun s => FX9_hasWon_15 F s) = FX9_hasWon_15 F' (lrn σ' l (vl Y boy r (!own l) D')) ∧ F ≤ F' + KK (4 * db Y) r ∧ GmS Y τ0 n boy σ' ∧ σ'.1 0 41 = nI l ∧ LoS (l + 1) σ σ' := by
  unfold FX9_descend
  rw [nI_1, hG.2.1]
  by_cases h0 : r = 0
  · subst h0
    rw [if_pos (by rw [show l + 1 = n by omega])]
    refine ⟨F, σ, ?_, by omega, hG, hlev, los_rfl _ _⟩
    rw [show FX9_learn σ (nI l) (0 : Int32) = some (lrn σ l false) from lrn_eq σ (by omega) false, bv_some, bv_some]
    rfl
  · rw [if_neg (fun z => h0 (by have := (nI_eq (by omega) (by omega)).mp z; omega)), ent_eq σ (by omega), bv_some, bv_some]
    obtain ⟨a1, a2, a3, a4, a5⟩ := ent_ok hG hE (l := l + 1)
    obtain ⟨F', τ', r1, r2, r3, r4, r5, r6, r7, _⟩ := hR (by omega) D' _ F hD' a1 a2 a3 a4 hF
    refine ⟨F', setI τ' 0 41 (nI l), ?_, r2, gm_41 r3, rfl, los_trans (los_trans a5 r7) (los_setI (.inr rfl))⟩
    rw [r1]
    unfold FX9_hasWon_37
    rw [if_neg (nI_ne0 (by omega) (by omega)), nI_pred, nm_eq, rd_in (by omega) (by decide), show (setI τ' 0 41 (nI l)).1 23 (l + 1) = τ'.1 23 (l + 1) from rfl, r5, lrn_eq _ (by omega), bv_some, own_s]
theorem lrn_same {σ : Mem} {l : Nat} {w : Bool} (h : w ≠ own l) : lrn σ l w = σ := by unfold lrn; rw [if_neg h]
/-- the level is decided -/
theorem lrn_dec {Y : Yd} {τ0 : Mem} {n boy : Nat} {σ : Mem} {l F np : Nat} {had psd cm : Bool} (hl : l < 5) (hG : GmS Y τ0 n boy σ) (hlev : σ.1 0 41 = nI l) (hv : Lv σ l np had psd cm false) : FX9_hasWon_15 (F + 1) (lrn σ l (own l)) = FX9_hasWon_37 (FX9_hasWon_15 F) (lrn σ l (own l)) (nI l) ∧ (lrn σ l (own l)).1 23 l = bI (own l) ∧ (lrn σ l (own l)).1 0 41 = nI l ∧ (lrn σ l (own l)).1 20 l = nI np ∧ (lrn σ l (own l)).1 22 l = bI psd ∧ LoS l σ (lrn σ l (own l)) := by
  have e : lrn σ l (own l) = setI (setI σ 23 l (bI (own l))) 24 l 1 := by unfold lrn; rw [if_pos rfl]
  rw [e]
  refine ⟨hd_t hl ?_ ?_, ?_, ?_, ?_, ?_, ?_⟩
  · rw [setI_ne1 (by decide), setI_ne1 (by decide)]; exact hlev
  · rw [setI_s1]; simp [upd]; rfl
  · rw [setI_ne1 (by decide), setI_s1]; simp [upd]
  · rw [setI_ne1 (by decide), setI_ne1 (by decide)]; exact hlev
  · rw [setI_ne1 (by decide), setI_ne1 (by decide)]; exact hv.1
  · rw [setI_ne1 (by decide), setI_ne1 (by decide)]; exact hv.2.2.1
  · exact los_trans (los_setI (by omega)) (los_setI (by omega))
/-- what a level comes to from its p-th push on -/
def nodV (Y : Yd) (boy r : Nat) (o had : Bool) (D : Dy) (p m : Nat) : Bool := if o then anyF (wpF Y boy r D) p m else ((had || anyF (gsF Y D) p m) && !anyF (wwF Y boy r D) p m)
theorem node_ok {Y : Yd} (hY : WFY Y) {τ0 : Mem} {n boy r l : Nat} (hb2 : boy < 2) (hn : n ≤ 4) (hl : l + 1 + r = n) (hR : 0 < r → RunP Y τ0 n boy r (l + 1)) {D : Dy} (hD : WFD Y D) : ∀ (m p f F : Nat) (had : Bool) (σ : Mem), p + m = 4 * db Y → m < f → GmS Y τ0 n boy σ → σ.1 0 41 = nI l → Lv σ l p had false (!own l) false → Held Y D l σ → (had = false → ∀ q, q < p → gsF Y D q = false) → (m + 2) * (KK (4 * db Y) r + 2) ≤ F →
    ∃ (F' : Nat) (σ' : Mem), bi (FX9_tryNext_0 f σ (nI l)) (cnt_ F l) = FX9_hasWon_37 (FX9_hasWon_15 F') σ' (nI l) ∧ F ≤ F' + (m + 2) * (KK (4 * db Y) r + 2) ∧ GmS Y τ0 n boy σ' ∧ σ'.1 0 41 = nI l ∧ σ'.1 23 l = bI (nodV Y boy r (own l) had D p m) ∧ Held Y D l σ' ∧ LoS l σ σ' ∧ (own l = true → ∀ q, finF (wpF Y boy r D) p m = some q → σ'.1 20 l = nI (q + 1) ∧ σ'.1 22 l = 0) := by
  have h6 := hY.2.1
  have hl5 : l < 5 := by omega
  have c1 : ∀ F s, cnt_ F l 1 s = FX9_hasWon_15 F s := fun F s => by unfold cnt_; rw [if_neg (by decide)]
  have c0 : ∀ F s, cnt_ F l 0 s = FX9_hasWon_37 (FX9_hasWon_15 F) s (nI l) := fun F s => by unfold cnt_; rw [if_pos rfl]
  intro m
  induction m with
  | zero =>
    intro p f F had σ hp hf hG hlev hv hH hno hF
    obtain ⟨f, rfl⟩ : ∃ f', f = f' + 1 := ⟨f - 1, by omega⟩
    have un : FX9_tryNext_0 (f + 1) σ (nI l) = BX9_tryNext_0 (FX9_tryNext_0 f) σ (nI l) := rfl
    rw [un]
    unfold BX9_tryNext_0
    rw [rd_in hl5 (by decide), hG.1.1.2.2.1, n4, hv.1, if_pos (nI_le (by omega) (by omega)), rd_in hl5 (by decide), hv.2.1]
    cases had with
    | true =>
      rw [if_neg (show ¬ bI true = 0 by decide)]
      show ∃ F' σ', bi (rz (bI false) σ) (cnt_ F l) = _ ∧ _
      rw [rz_b, bi_some, show bI false = 0 from rfl, c0]
      refine ⟨F, σ, rfl, by omega, hG, hlev, ?_, hH, los_rfl _ _, fun _ q hq => by cases hq⟩
      rw [hv.2.2.2.1]
      unfold nodV
      cases own l <;> rfl
    | false =>
      rw [if_pos (show bI false = 0 from rfl), rd_in hl5 (by decide), hv.2.2.1, if_pos (show bI false = 0 from rfl), stZ_in hl5 (by decide), nar1, give_eq _ hl5, bv_some, bv_rz]
      simp only [c1]
      have hall : anyF (gsF Y D) 0 (4 * db Y) = false := by
        cases q : anyF (gsF Y D) 0 (4 * db Y)
        · rfl
        · obtain ⟨z, z1, z2, z3⟩ := anyF_iff.mp q
          rw [hno rfl z (by omega)] at z3; cases z3
      have hG1 : GmS Y τ0 n boy (givenM (setI σ 22 l 1) l) := gm_given (gm_setI hG (by omega)) l
      have hH1 : Held Y D l (givenM (setI σ 22 l 1) l) := given_held (held_set hH (by decide))
      have hlev1 : (givenM (setI σ 22 l 1) l).1 0 41 = nI l := hlev
      have hv1 : Lv (givenM (setI σ 22 l 1) l) l p false true (!own l) false := by
        refine ⟨?_, ?_, ?_, ?_, ?_⟩
        · exact hv.1
        · exact hv.2.1
        · show (setI σ 22 l 1).1 22 l = _
          rw [setI_s1]; simp [upd]; rfl
        · exact hv.2.2.2.1
        · exact hv.2.2.2.2
      have hlos1 : LoS l σ (givenM (setI σ 22 l 1) l) := los_trans (los_setI (by omega)) (los_given _ _ _)
      have hF1 : KK (4 * db Y) r ≤ F := by omega
      obtain ⟨F1, σ1, d1, d2, d3, d4, d5⟩ := desc_ok hn hl hR hD hG1 (given_enc (held_set hH (by decide))) hlev1 hF1
      have hv2 := los_lv d5 hv1
      have hH2 := los_held d5 hH1
      have hlos2 := los_trans hlos1 (los_mono (Nat.le_succ l) d5)
      rw [d1, vl_none hall]
      obtain ⟨F2, rfl⟩ : ∃ F2, F1 = F2 + 1 := ⟨F1 - 1, by omega⟩
      have hnod : nodV Y boy r (own l) false D p 0 = false := by unfold nodV; cases own l <;> rfl
      rw [hnod]
      cases ho : own l with
      | true =>
        rw [lrn_same (by rw [ho]; decide), hd_f hl5 d4 hv2.2.2.2.2]
        refine ⟨F2, σ1, ?_, by omega, d3, d4, ?_, hH2, hlos2, fun _ q hq => by cases hq⟩
        · show bi (BX9_tryNext_0 (FX9_tryNext_0 9999999) σ1 (nI l)) (cnt_ F2 l) = _
          unfold BX9_tryNext_0
          rw [rd_in hl5 (by decide), d3.1.1.2.2.1, n4, hv2.1, if_pos (nI_le (by omega) (by omega)), rd_in hl5 (by decide), hv2.2.1, if_pos (show bI false = 0 from rfl), rd_in hl5 (by decide), hv2.2.2.1, if_neg (show ¬ bI true = 0 by decide)]
          show bi (rz (bI false) σ1) (cnt_ F2 l) = _
          rw [rz_b, bi_some, show bI false = 0 from rfl, c0]
        · rw [hv2.2.2.2.1, ho]; rfl
      | false =>
        rw [← ho]
        obtain ⟨e1, e2, e3, e4, e5, e6⟩ := lrn_dec (F := F2) hl5 d3 d4 hv2
        rw [e1]
        refine ⟨F2, _, rfl, by omega, gm_lrn d3 _ _, e3, by rw [e2, ho], ?_, los_trans hlos2 e6, fun _ q hq => by cases hq⟩
        unfold lrn
        rw [if_pos rfl]
        exact held_set (held_set hH2 (by decide)) (by decide)
  | succ m ih =>
    intro p f F had σ hp hf hG hlev hv hH hno hF
    obtain ⟨f, rfl⟩ : ∃ f', f = f' + 1 := ⟨f - 1, by omega⟩
    have hsm : (m + 1 + 2) * (KK (4 * db Y) r + 2) = (m + 2) * (KK (4 * db Y) r + 2) + (KK (4 * db Y) r + 2) := Nat.succ_mul _ _
    have un : FX9_tryNext_0 (f + 1) σ (nI l) = BX9_tryNext_0 (FX9_tryNext_0 f) σ (nI l) := rfl
    rw [un]
    unfold BX9_tryNext_0 dzI
    rw [rd_in hl5 (by decide), hG.1.1.2.2.1, n4, hv.1, if_neg (nI_ge (by omega) (by omega)), rd_in hl5 (by decide), nm_eq, rd_in hl5 (by decide), stI_in hl5 (by decide), hv.1, nI_1, give_eq _ hl5, bv_some, if_neg (show ¬ (4 : Int32) = 0 by decide), if_neg (show ¬ (4 : Int32) = 0 by decide), m4 (by omega), d4 (by omega)]
    have hG1 : GmS Y τ0 n boy (givenM (setI σ 20 l (nI (p + 1))) l) := gm_given (gm_setI hG (by omega)) l
    obtain ⟨σ1, g1, g2, g3⟩ := gom hY (t0_ok Y) hD hG1.1 (given_enc (held_set hH (by decide))) (show p < 4 * db Y by omega)
    have hG2 : GmS Y τ0 n boy σ1 := gm_sl hG1 g2
    have hH2 : Held Y D l σ1 := sl_held g2 (given_held (held_set hH (by decide)))
    have hlev2 : σ1.1 0 41 = nI l := by rw [g2.2.1 41 (by decide)]; exact hlev
    have hv2 : Lv σ1 l (p + 1) had false (!own l) false := by
      refine ⟨?_, ?_, ?_, ?_, ?_⟩
      · rw [g2.1 20 (by decide) (by decide)]
        show (setI σ 20 l (nI (p + 1))).1 20 l = _
        rw [setI_s1]; simp [upd]
      · rw [g2.1 21 (by decide) (by decide)]; exact hv.2.1
      · rw [g2.1 22 (by decide) (by decide)]; exact hv.2.2.1
      · rw [g2.1 23 (by decide) (by decide)]; exact hv.2.2.2.1
      · rw [g2.1 24 (by decide) (by decide)]; exact hv.2.2.2.2
    have hlos2 : LoS l σ σ1 := los_trans (los_trans (los_setI (by omega)) (los_given l l _)) (los_sl g2)
    have hP := pu_ok hY hD (T := T0) (k := p / 4) (d := p % 4) (by omega)
    rw [g1, bi_some]
    cases ha : anyT Y (pp Y T0 D p).2.1
    · -- it does not go
      rw [if_neg (show ¬ false = true by decide), if_pos rfl]
      have hgp : gsF Y D p = false := ha
      obtain ⟨F', σ', r1, r2, r3, r4, r5, r6, r7, r8⟩ := ih (p + 1) f F had σ1 (by omega) (by omega) hG2 hlev2 hv2 hH2 (fun h q hq => by
        by_cases e : q = p
        · rw [e]; exact hgp
        · exact hno h q (by omega)) (by omega)
      have hnod : nodV Y boy r (own l) had D p (m + 1) = nodV Y boy r (own l) had D (p + 1) m := by
        have w1 : wpF Y boy r D p = false := by unfold wpF; rw [hgp, Bool.false_and]
        have w2 : wwF Y boy r D p = false := by unfold wwF; rw [hgp, Bool.false_and]
        unfold nodV
        rw [anyF_s, anyF_s, anyF_s, w1, w2, hgp, Bool.false_or, Bool.false_or, Bool.false_or]
      refine ⟨F', σ', r1, by omega, r3, r4, by rw [hnod]; exact r5, r6, los_trans hlos2 r7, fun h q hq => r8 h q ?_⟩
      have w1 : wpF Y boy r D p = false := by unfold wpF; rw [hgp, Bool.false_and]
      unfold finF at hq
      rw [w1, if_neg (by decide)] at hq
      exact hq
    · rw [if_pos rfl, if_neg (show ¬ (1 : Int32) = 0 by decide), stZ_in hl5 (by decide), nar1]
      have hgp : gsF Y D p = true := ha
      have hG3 : GmS Y τ0 n boy (setI σ1 21 l 1) := gm_setI hG2 (by omega)
      have hH3 : Held Y D l (setI σ1 21 l 1) := held_set hH2 (by decide)
      have hv3 : Lv (setI σ1 21 l 1) l (p + 1) true false (!own l) false := by
        refine ⟨hv2.1, ?_, hv2.2.2.1, hv2.2.2.2.1, hv2.2.2.2.2⟩
        rw [setI_s1]; simp [upd]; rfl
      have hlos3 : LoS l σ (setI σ1 21 l 1) := los_trans hlos2 (los_setI (by omega))
      have hE3 : EncM Y (pp Y T0 D p).1 ((setI σ1 21 l 1).1 4) ((setI σ1 21 l 1).2 0 8) := g2.2.2.2.2.1
      obtain ⟨t1, t2⟩ := ho_own (r := pp Y T0 D p) hb2 (fun g hg => (hP.2.2 g hg).2)
      -- what comes of the push, learned
      have key : ∃ (F1 : Nat) (σ2 : Mem), (bi (if (((setI σ1 21 l 1).1 0 19 >>> ((setI σ1 21 l 1).1 0 43 &&& 31)) &&& (1 : Int32)) = (1 : Int32) then FX9_tryNext_77 (setI σ1 21 l 1) (nI l) 1 else FX9_tryNext_77 (setI σ1 21 l 1) (nI l) 0) (cnt_ F l)) = FX9_hasWon_15 F1 (lrn σ2 l (vlP Y boy r (!own l) D p)) ∧ F ≤ F1 + KK (4 * db Y) r ∧ GmS Y τ0 n boy σ2 ∧ σ2.1 0 41 = nI l ∧ LoS (l + 1) (setI σ1 21 l 1) σ2 := by
        rw [show (setI σ1 21 l 1).1 0 19 = hoI (pp Y T0 D p).2.2 from g2.2.2.2.2.2.2, hG3.2.2]
        have e77 : ∀ s0 : Int32, FX9_tryNext_77 (setI σ1 21 l 1) (nI l) s0 = FX9_tryNext_100 (setI σ1 21 l 1) (nI l) s0 (bI (decide (hgt (pp Y T0 D p) ≠ none ∧ hgt (pp Y T0 D p) ≠ some boy))) := by
          intro s0
          unfold FX9_tryNext_77
          rw [show (setI σ1 21 l 1).1 0 19 = hoI (pp Y T0 D p).2.2 from g2.2.2.2.2.2.2, hG3.2.2]
          by_cases q : hgt (pp Y T0 D p) ≠ none ∧ hgt (pp Y T0 D p) ≠ some boy
          · rw [if_pos (t2.mpr q), decide_eq_true q]; rfl
          · rw [if_neg (fun z => q (t2.mp z)), decide_eq_false q]; rfl
        by_cases q1 : hgt (pp Y T0 D p) = some boy
        · rw [if_pos (t1.mpr q1), e77, decide_eq_false (fun z => z.2 q1)]
          have : vlP Y boy r (!own l) D p = true := by unfold vlP; rw [decide_eq_true q1, Bool.true_or]
          rw [this]
          refine ⟨F, setI σ1 21 l 1, ?_, by omega, hG3, hlev2, los_rfl _ _⟩
          unfold FX9_tryNext_100
          rw [if_neg (show ¬ (1 : Int32) = 0 by decide), if_pos (show bI false = 0 from rfl)]
          unfold FX9_tryNext_119
          rw [bv_rz]
          simp only [c1]
          rw [show FX9_learn (setI σ1 21 l 1) (nI l) (1 : Int32) = some (lrn (setI σ1 21 l 1) l true) from lrn_eq _ hl5 true, bv_some]
        · rw [if_neg (fun z => q1 (t1.mp z)), e77]
          unfold FX9_tryNext_100
          rw [if_pos rfl]
          unfold FX9_tryNext_128
          by_cases q0 : hgt (pp Y T0 D p) = none
          · rw [decide_eq_false (fun z => z.1 q0), if_pos (show bI false = 0 from rfl), bv_rz]
            simp only [c1]
            have : vlP Y boy r (!own l) D p = vl Y boy r (!own l) (pp Y T0 D p).1 := by unfold vlP; rw [decide_eq_false q1, Bool.false_or, decide_eq_true q0, Bool.true_and]
            rw [this]
            exact desc_ok hn hl hR hP.1 hG3 hE3 hlev2 (by omega)
          · rw [decide_eq_true (show _ ∧ _ from ⟨q0, q1⟩), if_neg (show ¬ bI true = 0 by decide), bv_rz]
            simp only [c1]
            have : vlP Y boy r (!own l) D p = false := by unfold vlP; rw [decide_eq_false q1, Bool.false_or, decide_eq_false q0, Bool.false_and]
            rw [this]
            refine ⟨F, setI σ1 21 l 1, ?_, by omega, hG3, hlev2, los_rfl _ _⟩
            rw [show FX9_learn (setI σ1 21 l 1) (nI l) (0 : Int32) = some (lrn (setI σ1 21 l 1) l false) from lrn_eq _ hl5 false, bv_some]
      obtain ⟨F1, σ2, k1, k2, k3, k4, k5⟩ := key
      rw [k1]
      have hv4 := los_lv k5 hv3
      have hH4 := los_held k5 hH3
      have hlos4 := los_trans hlos3 (los_mono (Nat.le_succ l) k5)
      obtain ⟨F2, rfl⟩ : ∃ F2, F1 = F2 + 1 := ⟨F1 - 1, by omega⟩
      have fin_w : wpF Y boy r D p = vlP Y boy r false D p := by unfold wpF; rw [hgp, Bool.true_and]
      have fin_x : wwF Y boy r D p = !vlP Y boy r true D p := by unfold wwF; rw [hgp, Bool.true_and]
      by_cases hw : vlP Y boy r (!own l) D p = own l
      · rw [hw]
        obtain ⟨e1, e2, e3, e4, e5, e6⟩ := lrn_dec (F := F2) hl5 k3 k4 hv4
        rw [e1]
        refine ⟨F2, _, rfl, by omega, gm_lrn k3 _ _, e3, ?_, ?_, los_trans hlos4 e6, fun ho q hq => ?_⟩
        · rw [e2]
          unfold nodV anyF
          cases ho : own l with
          | true =>
            rw [ho] at hw
            rw [if_pos rfl, fin_w, show vlP Y boy r false D p = true from hw]; rfl
          | false =>
            rw [ho] at hw
            rw [if_neg (by decide), fin_x, show vlP Y boy r true D p = false from hw]
            simp
        · unfold lrn
          rw [if_pos rfl]
          exact held_set (held_set hH4 (by decide)) (by decide)
        · rw [ho] at hw
          unfold finF at hq
          rw [fin_w, show vlP Y boy r false D p = true from hw, if_pos rfl] at hq
          cases hq
          exact ⟨e4, e5⟩
      · rw [lrn_same hw, hd_f hl5 k4 hv4.2.2.2.2]
        obtain ⟨F', σ', r1, r2, r3, r4, r5, r6, r7, r8⟩ := ih (p + 1) FU F2 true σ2 (by omega) (by show m < 10000000; omega) k3 k4 hv4 hH4 (fun h => by cases h) (by omega)
        refine ⟨F', σ', r1, by omega, r3, r4, ?_, r6, los_trans hlos4 r7, fun ho q hq => r8 ho q ?_⟩
        · rw [r5]
          congr 1
          unfold nodV
          cases ho : own l with
          | true =>
            rw [ho] at hw
            change ¬ vlP Y boy r false D p = true at hw
            rw [if_pos rfl, if_pos rfl]
            show _ = (wpF Y boy r D p || anyF (wpF Y boy r D) (p + 1) m)
            rw [fin_w, show vlP Y boy r false D p = false by revert hw; cases vlP Y boy r false D p <;> simp, Bool.false_or]
          | false =>
            rw [ho] at hw
            change ¬ vlP Y boy r true D p = false at hw
            rw [if_neg (by decide), if_neg (by decide)]
            show _ = ((had || (gsF Y D p || anyF (gsF Y D) (p + 1) m)) && !(wwF Y boy r D p || anyF (wwF Y boy r D) (p + 1) m))
            rw [fin_x, show vlP Y boy r true D p = true by revert hw; cases vlP Y boy r true D p <;> simp, hgp]
            simp
        · rw [ho] at hw
          change ¬ vlP Y boy r false D p = true at hw
          unfold finF at hq
          rw [fin_w, show vlP Y boy r false D p = false by revert hw; cases vlP Y boy r false D p <;> simp, if_neg (by decide)] at hq
          exact hq
theorem run_ok {Y : Yd} (hY : WFY Y) {τ0 : Mem} {n boy : Nat} (hb2 : boy < 2) (hn : n ≤ 4) : ∀ (r l : Nat), l + r + 1 = n → RunP Y τ0 n boy (r + 1) l := by
  have h6 := hY.2.1
  intro r
  induction r with
  | zero =>
    intro l hl D τ F hD hG hv hlev hH hF
    have hKK : KK (4 * db Y) (0 + 1) = (4 * db Y + 2) * (KK (4 * db Y) 0 + 2) + 1 := rfl
    obtain ⟨F1, rfl⟩ : ∃ F1, F = F1 + 1 := ⟨F - 1, by omega⟩
    rw [hd_f (show l < 5 by omega) hlev hv.2.2.2.2]
    obtain ⟨F', σ', r1, r2, r3, r4, r5, r6, r7, r8⟩ := node_ok hY hb2 hn (r := 0) (l := l) (by omega) (fun h => absurd h (Nat.lt_irrefl 0)) hD (4 * db Y) 0 FU F1 false τ (Nat.zero_add _) (by show _ < 10000000; omega) hG hlev hv hH (fun _ q hq => absurd hq (Nat.not_lt_zero _)) (by omega)
    refine ⟨F', σ', r1, by omega, r3, r4, ?_, r6, r7, r8⟩
    rw [r5]
    unfold nodV
    cases own l
    · rw [if_neg (by decide), Bool.false_or, vl_f]
    · rw [if_pos rfl, vl_t]
  | succ r ih =>
    intro l hl D τ F hD hG hv hlev hH hF
    have hKK : KK (4 * db Y) (r + 1 + 1) = (4 * db Y + 2) * (KK (4 * db Y) (r + 1) + 2) + 1 := rfl
    obtain ⟨F1, rfl⟩ : ∃ F1, F = F1 + 1 := ⟨F - 1, by omega⟩
    rw [hd_f (show l < 5 by omega) hlev hv.2.2.2.2]
    obtain ⟨F', σ', r1, r2, r3, r4, r5, r6, r7, r8⟩ := node_ok hY hb2 hn (r := r + 1) (l := l) (by omega) (fun _ => ih (l + 1) (by omega)) hD (4 * db Y) 0 FU F1 false τ (Nat.zero_add _) (by show _ < 10000000; omega) hG hlev hv hH (fun _ q hq => absurd hq (Nat.not_lt_zero _)) (by omega)
    refine ⟨F', σ', r1, by omega, r3, r4, ?_, r6, r7, r8⟩
    rw [r5]
    unfold nodV
    cases own l
    · rw [if_neg (by decide), Bool.false_or, vl_f]
    · rw [if_pos rfl, vl_t]

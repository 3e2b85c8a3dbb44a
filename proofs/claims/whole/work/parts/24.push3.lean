/-! ===== push, would, tracks: the calls ===== -/
def T0 : Nat → Bool := fun _ => false
theorem t0_ok (Y : Yd) : TOk Y T0 := fun i h => by cases h
theorem x_T0 {A : As} {σ : Mem} (h : RX A σ) (i : Nat) : bit64 (σ.2 2 5) i = T0 i := by
  rw [show σ.2 2 5 = 0 from h.2.2.2.2.2.1.1, w_0]; rfl
theorem m_T0 {A : As} {τ : Mem} (h : RM A τ) (i : Nat) : bit64 (τ.2 0 17) i = T0 i := by
  rw [show τ.2 0 17 = 0 from h.2.2.2.2.2.1, w_0]; rfl
abbrev psh (A : As) (k d : Nat) : PR := pushD (aY A) T0 (aD A) k d
/-- a push that may be: the class's side -/
theorem rop_ok {A : As} {σ : Mem} (hA : WA A) (hX : RX A σ) {k d : Nat} (hk : k < db (aY A)) (hd : d < 4) : ∃ σ', FX8_refusalOfPush σ (nI k) (nI d) = some (if anyT (aY A) (psh A k d).2.1 then 0 else -3, σ') ∧ RX A σ' ∧ EncX (aY A) (psh A k d).1 (σ'.2 2 6) ∧ ∀ i, bit64 (σ'.2 2 7) i = (psh A k d).2.1 i := by
  have h6 := hA.1.2.1
  obtain ⟨σ', e1, e2, e3⟩ := goes_x hA.1 (t0_ok _) hA.2.1 hX.1 hX.2.2.2.2.2.1.2 (x_T0 hX) hX.2.1 hk hd
  refine ⟨σ', ?_, rx_fr hX (frx_go e2) e2.2.2.2.1 (by rw [e2.2.2.1]; exact hX.2.2.2.2.2.1.1), e2.2.2.2.2.1, e2.2.2.2.2.2.1⟩
  unfold FX8_refusalOfPush
  rw [hab_eq hX.1.2.2.1 h6, if_pos (by rw [nI_toInt (by omega)]; omega), bi_some, if_neg (show ¬ (1 : Int32) = 0 by decide), if_neg (nI_pos (by omega)), if_pos (show nI d < (4 : Int32) from nI_lt (b := 4) hd (by decide)), e1, bi_some]
  by_cases q : anyT (aY A) (psh A k d).2.1 = true
  · rw [if_pos q, if_pos q, if_neg (show ¬ (1 : Int32) = 0 by decide)]
  · rw [if_neg q, if_neg q, if_pos rfl]
theorem rop_1 {A : As} {σ : Mem} (hA : WA A) (hX : RX A σ) {a d : Int32} (hk : ¬ (0 ≤ a.toInt ∧ a.toInt < db (aY A))) : FX8_refusalOfPush σ a d = some (-1, σ) := by
  unfold FX8_refusalOfPush
  rw [hab_eq hX.1.2.2.1 hA.1.2.1, if_neg hk, bi_some, if_pos rfl]
theorem rop_2 {A : As} {σ : Mem} (hA : WA A) (hX : RX A σ) {a d : Int32} (hk : 0 ≤ a.toInt ∧ a.toInt < db (aY A)) (hd : ¬ (0 ≤ d.toInt ∧ d.toInt < 4)) : FX8_refusalOfPush σ a d = some (-2, σ) := by
  unfold FX8_refusalOfPush
  rw [hab_eq hX.1.2.2.1 hA.1.2.1, if_pos hk, bi_some, if_neg (show ¬ (1 : Int32) = 0 by decide)]
  by_cases h1 : d < 0
  · rw [if_pos h1]
  · rw [if_neg h1, if_neg (by rw [toInt_lt] at h1 ⊢; change ¬ d.toInt < 0 at h1; show ¬ d.toInt < 4; omega)]
/-- the reference's side -/
theorem pba_ok {A : As} {τ : Mem} (hA : WA A) (hM : RM A τ) {k d : Nat} (hk : k < db (aY A)) (hd : d < 4) : ∃ τ', FX9_pushBarred τ (nI k) (nI d) = some (if anyT (aY A) (psh A k d).2.1 then 0 else -3, τ') ∧ SlM (aY A) (psh A k d) (heldM τ 0) τ' := by
  have h6 := hA.1.2.1
  have hfr := held_fr τ 0
  obtain ⟨τ', e1, e2⟩ := goes_m hA.1 (t0_ok (aY A)) hA.2.1 (frm_ms hfr hM.1) (fun i => (m_T0 hM i)) (held_enc hM.2.1) hk hd (pu_ok hA.1 hA.2.1 hk)
  refine ⟨τ', ?_, e2⟩
  unfold FX9_pushBarred
  rw [nob_eq hM.1.2.2.1 h6, if_pos (by rw [nI_toInt (by omega)]; omega), bi_some, if_pos rfl, in_eq, i64_toInt, nI_toInt (by omega), show (0 : Int64).toInt = 0 from rfl, show (3 : Int64).toInt = 3 from rfl, if_pos (by omega), bi_some, if_neg (show ¬ (1 : Int32) = 0 by decide), show (0 : Int32) = nI 0 from rfl, hold_eq τ (by decide), bv_some, e1, bi_some]
  by_cases q : anyT (aY A) (psh A k d).2.1 = true
  · rw [if_pos q, if_pos q, if_neg (show ¬ (1 : Int32) = nI 0 by decide)]
  · rw [if_neg q, if_neg q, if_pos (show (0 : Int32) = nI 0 from rfl)]
theorem pba_1 {A : As} {τ : Mem} (hA : WA A) (hM : RM A τ) {a d : Int32} (hk : ¬ (0 ≤ a.toInt ∧ a.toInt < db (aY A))) : FX9_pushBarred τ a d = some (-1, τ) := by
  unfold FX9_pushBarred
  rw [nob_eq hM.1.2.2.1 hA.1.2.1, if_neg hk, bi_some, if_neg (show ¬ (1 : Int32) = 0 by decide)]
theorem pba_2 {A : As} {τ : Mem} (hA : WA A) (hM : RM A τ) {a d : Int32} (hk : 0 ≤ a.toInt ∧ a.toInt < db (aY A)) (hd : ¬ (0 ≤ d.toInt ∧ d.toInt < 4)) : FX9_pushBarred τ a d = some (-2, τ) := by
  unfold FX9_pushBarred
  rw [nob_eq hM.1.2.2.1 hA.1.2.1, if_pos hk, bi_some, if_pos rfl, in_eq, i64_toInt, show (0 : Int64).toInt = 0 from rfl, show (3 : Int64).toInt = 3 from rfl, if_neg (by omega), bi_some, if_pos rfl]
/-- the reference's memory behind a push tried -/
theorem sl_rm {A : As} {τ τ' : Mem} (hM : RM A τ) {r : PR} (h : SlM (aY A) r (heldM τ 0) τ') : FrM τ τ' ∧ τ'.2 0 17 = 0 ∧ Held (aY A) (aD A) 0 τ' := by
  refine ⟨frm_trans (held_fr τ 0) (frm_sl h), ?_, sl_held h (held_ok hM.2.1)⟩
  rw [h.2.2.2.1 17 (by decide) (by decide)]
  exact hM.2.2.2.2.2.1
theorem wd_self (A : As) : wD A (aD A) (aN A) = A := rfl
/-- given back, all is as before -/
theorem rm_given {A : As} {τ τ' : Mem} (hM : RM A τ) (hf : FrM τ τ') (h17 : τ'.2 0 17 = 0) (hh : Held (aY A) (aD A) 0 τ') : RM A (givenM τ' 0) := by
  have := rm_fr hM (frm_trans hf (given_fr τ' 0)) (given_enc hh) h17
  rw [wd_self] at this
  exact this
theorem rm_same {A : As} {τ τ' : Mem} (hM : RM A τ) (hf : FrM τ τ') (h17 : τ'.2 0 17 = 0) (hE : EncM (aY A) (aD A) (τ'.1 4) (τ'.2 0 8)) : RM A τ' := by
  have := rm_fr hM hf hE h17
  rw [wd_self] at this
  exact this
theorem psh_none {A : As} (hA : WA A) {k d : Nat} (hk : k < db (aY A)) (h : ¬ anyT (aY A) (psh A k d).2.1 = true) : (psh A k d).1 = aD A :=
  pu_none hA.1 hA.2.1 hk (by revert h; cases anyT (aY A) (psh A k d).2.1 <;> simp)
theorem sim_would : Sim_would RelW := by
  intro σ τ a d h
  obtain ⟨A, hA, hX, hM⟩ := id h
  have h6 := hA.1.2.1
  unfold FX8_would FX9_would
  by_cases hk : 0 ≤ a.toInt ∧ a.toInt < db (aY A)
  · by_cases hd : 0 ≤ d.toInt ∧ d.toInt < 4
    · obtain ⟨k, hkb, rfl⟩ := blk hk
      obtain ⟨d', hd', rfl⟩ := blk (n := 4) hd
      obtain ⟨σ', x1, x2, x3, x4⟩ := rop_ok hA hX hkb hd'
      obtain ⟨τ', m1, m2⟩ := pba_ok hA hM hkb hd'
      obtain ⟨r1, r2, r3⟩ := sl_rm hM m2
      have hP := pu_ok (T := T0) hA.1 hA.2.1 hkb (d := d')
      rw [x1, m1, bi_some, bi_some]
      by_cases q : anyT (aY A) (psh A k d').2.1 = true
      · rw [if_pos q, if_pos rfl, if_pos (show (0 : Int32) ≤ 0 by decide), whi_eq hA.1 hP.1 x3 hkb, bi_some, rd_in (by omega) (by decide), nm_eq, show (0 : Int32) = nI 0 from rfl, give_eq τ' (by decide), bv_some, m2.2.2.2.2.1.1 k (by omega), plM_in hkb]
        exact ⟨_, _, _, rfl, rfl, A, hA, x2, rm_given hM r1 r2 r3⟩
      · rw [if_neg q, if_neg (show ¬ (-3 : Int32) = 0 by decide), if_neg (show ¬ (0 : Int32) ≤ -3 by decide)]
        exact ⟨_, _, _, rfl, rfl, A, hA, x2, rm_same hM r1 r2 (by have := m2.2.2.2.2.1; rw [psh_none hA hkb q] at this; exact this)⟩
    · rw [rop_2 hA hX hk hd, pba_2 hA hM hk hd, bi_some, bi_some, if_neg (show ¬ (-2 : Int32) = 0 by decide), if_neg (show ¬ (0 : Int32) ≤ -2 by decide)]
      exact ⟨_, _, _, rfl, rfl, h⟩
  · rw [rop_1 hA hX hk, pba_1 hA hM hk, bi_some, bi_some, if_neg (show ¬ (-1 : Int32) = 0 by decide), if_neg (show ¬ (0 : Int32) ≤ -1 by decide)]
    exact ⟨_, _, _, rfl, rfl, h⟩
theorem sim_tracks : Sim_tracks RelW := by
  intro σ τ a d h
  obtain ⟨A, hA, hX, hM⟩ := id h
  have h6 := hA.1.2.1
  unfold FX8_tracks FX9_tracks FX9_lost
  by_cases hk : 0 ≤ a.toInt ∧ a.toInt < db (aY A)
  · by_cases hd : 0 ≤ d.toInt ∧ d.toInt < 4
    · obtain ⟨k, hkb, rfl⟩ := blk hk
      obtain ⟨d', hd', rfl⟩ := blk (n := 4) hd
      obtain ⟨σ', x1, x2, x3, x4⟩ := rop_ok hA hX hkb hd'
      obtain ⟨τ', m1, m2⟩ := pba_ok hA hM hkb hd'
      obtain ⟨r1, r2, r3⟩ := sl_rm hM m2
      rw [x1, m1, bi_some, bi_some]
      by_cases q : anyT (aY A) (psh A k d').2.1 = true
      · rw [if_pos q, if_pos rfl, if_pos (show (0 : Int32) ≤ 0 by decide), show (0 : Int32) = nI 0 from rfl, give_eq τ' (by decide), bv_some]
        have e : (givenM τ' 0).2 0 18 = σ'.2 2 7 := w_ext fun i _ => by
          rw [x4 i]
          exact m2.2.2.2.2.2.1 i
        rw [e]
        exact ⟨_, _, _, rfl, rfl, A, hA, x2, rm_given hM r1 r2 r3⟩
      · rw [if_neg q, if_neg (show ¬ (-3 : Int32) = 0 by decide), if_neg (show ¬ (0 : Int32) ≤ -3 by decide)]
        exact ⟨_, _, _, rfl, rfl, A, hA, x2, rm_same hM r1 r2 (by have := m2.2.2.2.2.1; rw [psh_none hA hkb q] at this; exact this)⟩
    · rw [rop_2 hA hX hk hd, pba_2 hA hM hk hd, bi_some, bi_some, if_neg (show ¬ (-2 : Int32) = 0 by decide), if_neg (show ¬ (0 : Int32) ≤ -2 by decide)]
      exact ⟨_, _, _, rfl, rfl, h⟩
  · rw [rop_1 hA hX hk, pba_1 hA hM hk, bi_some, bi_some, if_neg (show ¬ (-1 : Int32) = 0 by decide), if_neg (show ¬ (0 : Int32) ≤ -1 by decide)]
    exact ⟨_, _, _, rfl, rfl, h⟩
theorem psh_loop {n : Nat} (hn : n < 200) (k : Nat) (hk : k < 6) : ∀ (m i fuel : Nat) (τ : Mem), τ.1 0 22 = nI n → i + m = 6 → m < fuel → FX9_push_34 fuel τ (nI k) (nI i) = some (τ.1 4 k, setI (setL (setA τ 10 (fun j => if 6 * n + i ≤ j ∧ j < 6 * n + 6 then τ.1 8 (j - 6 * n) else τ.1 10 j)) 11 n (τ.2 9 0)) 0 22 (nI (n + 1))) := by
  intro m
  induction m with
  | zero =>
    intro i fuel τ hτ hi hf
    obtain ⟨f, rfl⟩ : ∃ f, fuel = f + 1 := ⟨fuel - 1, by omega⟩
    show BX9_push_34 (FX9_push_34 f) τ (nI k) (nI i) = _
    unfold BX9_push_34
    rw [if_pos (show (6 : Int32) ≤ nI i from nI_le (a := 6) (by omega) (by omega)), show (0 : Int32) = nI 0 from rfl, rd_in (by decide) (by decide), hτ, stL_in hn (by decide), nm_eq, show (setL τ 11 n (τ.2 9 0)).1 0 22 = nI n from hτ, nI_1, rd_in hk (by decide), setA_self]
    · rfl
    · intro j
      rw [if_neg (by omega)]
  | succ m ih =>
    intro i fuel τ hτ hi hf
    obtain ⟨f, rfl⟩ : ∃ f, fuel = f + 1 := ⟨fuel - 1, by omega⟩
    show BX9_push_34 (FX9_push_34 f) τ (nI k) (nI i) = _
    unfold BX9_push_34
    rw [if_neg (show ¬ (6 : Int32) ≤ nI i from nI_ge (b := 6) (by omega) (by omega)), rd_in (by omega) (by decide), hτ, n6, stI_in (by omega) (by decide), nm_eq, nI_1, ih (i + 1) f _ (by rw [setI_ne1 (show 0 ≠ 10 by decide)]; exact hτ) (by omega) (by omega), setA_setI]
    refine congrArg (fun z => some (τ.1 4 k, setI (setL z 11 n (τ.2 9 0)) 0 22 (nI (n + 1)))) (setA_ext fun j => ?_)
    rw [setI_ne1 (show 8 ≠ 10 by decide), setI_s1]
    by_cases e : j = 6 * n + i
    · subst e
      rw [if_neg (by omega), if_pos (by omega), show 6 * n + i - 6 * n = i by omega]
      simp [upd]
    · by_cases h1 : 6 * n + (i + 1) ≤ j ∧ j < 6 * n + 6
      · rw [if_pos h1, if_pos (by omega)]
      · rw [if_neg h1, if_neg (by omega)]; simp [upd, e]
theorem sim_push : Sim_push RelW := by
  intro σ τ a d h
  obtain ⟨A, hA, hX, hM⟩ := id h
  have h6 := hA.1.2.1
  have hN := hA.2.2.1
  unfold FX8_push FX9_push
  by_cases hk : 0 ≤ a.toInt ∧ a.toInt < db (aY A)
  · by_cases hd : 0 ≤ d.toInt ∧ d.toInt < 4
    · obtain ⟨k, hkb, rfl⟩ := blk hk
      obtain ⟨d', hd', rfl⟩ := blk (n := 4) hd
      obtain ⟨σ', x1, x2, x3, x4⟩ := rop_ok hA hX hkb hd'
      obtain ⟨τ', m1, m2⟩ := pba_ok hA hM hkb hd'
      obtain ⟨r1, r2, r3⟩ := sl_rm hM m2
      have hP := pu_ok (T := T0) hA.1 hA.2.1 hkb (d := d')
      have hxn : σ'.1 0 10 = nI (aN A) := x2.2.2.1.1
      have hmn : τ'.1 0 22 = nI (aN A) := by rw [r1.2.1 22 (by omega)]; exact hM.2.2.1.1
      rw [x1, m1, bi_some, bi_some]
      by_cases q : anyT (aY A) (psh A k d').2.1 = true
      · rw [if_pos q, if_pos rfl, if_pos (show (0 : Int32) ≤ 0 by decide), hxn, hmn, if_neg (nI_pos (by omega))]
        by_cases hf : aN A = 200
        · rw [hf, if_neg (show ¬ nI 200 < (200 : Int32) by decide), if_pos (show nI 200 = (200 : Int32) from rfl), show (0 : Int32) = nI 0 from rfl, give_eq τ' (by decide), bv_some]
          exact ⟨_, _, _, rfl, rfl, A, hA, x2, rm_given hM r1 r2 r3⟩
        · rw [if_pos (show nI (aN A) < (200 : Int32) from nI_lt (b := 200) (by omega) (by decide)), if_neg (show ¬ nI (aN A) = (200 : Int32) from fun z => hf ((nI_eq (b := 200) (by omega) (by decide)).mp z)), stL_in (show aN A < 200 by omega) (by decide), nm_eq, nm_eq]
          have hen : EncX (aY A) (psh A k d').1 ((setL (setI (setL σ' 16 (aN A) (σ'.2 0 9)) 0 10 ((setL σ' 16 (aN A) (σ'.2 0 9)).1 0 10 + 1)) 0 9 ((setI (setL σ' 16 (aN A) (σ'.2 0 9)) 0 10 ((setL σ' 16 (aN A) (σ'.2 0 9)).1 0 10 + 1)).2 2 6)).2 0 9) := x3
          rw [whi_eq hA.1 hP.1 hen hkb, bi_some, show (0 : Int32) = nI 0 from rfl, psh_loop (show aN A < 200 by omega) k (by omega) 6 0 FU τ' hmn rfl (by show 6 < 10000000; omega), m2.2.2.2.2.1.1 k (by omega), plM_in hkb]
          refine ⟨_, _, _, rfl, rfl, wP A (psh A k d').1 (aN A + 1) (fun q => if q = aN A then aD A else aH A q), ?_, ?_, ?_⟩
          · refine ⟨hA.1, hP.1, show aN A + 1 ≤ 200 by omega, fun q hq => ?_, hA.2.2.2.2⟩
            show WFD (aY A) (if q = aN A then aD A else aH A q)
            by_cases e : q = aN A
            · rw [if_pos e]; exact hA.2.1
            · rw [if_neg e]; exact hA.2.2.2.1 q (by have : q < aN A + 1 := hq; omega)
          · have xn : (setL σ' 16 (aN A) (σ'.2 0 9)).1 0 10 + 1 = nI (aN A + 1) := by
              rw [show (setL σ' 16 (aN A) (σ'.2 0 9)).1 0 10 = nI (aN A) from hxn, nI_1]
            refine ⟨x2.1, x3, ⟨xn, fun q hq => ?_⟩, x2.2.2.2.1, x2.2.2.2.2.1, x2.2.2.2.2.2.1, x2.2.2.2.2.2.2.1, x2.2.2.2.2.2.2.2⟩
            show EncX (aY A) (if q = aN A then aD A else aH A q) (vp_updL (σ'.2 16) (aN A) (σ'.2 0 9) q)
            by_cases e : q = aN A
            · simp only [vp_updL, if_pos e]; exact x2.2.1
            · simp only [vp_updL, if_neg e]; exact x2.2.2.1.2 q (by have : q < aN A + 1 := hq; omega)
          · refine ⟨(show MS' (aY A) τ' from frm_ms r1 hM.1), m2.2.2.2.2.1, ⟨rfl, fun q hq => ?_⟩, ?_, ?_, r2, ?_, ?_⟩
            · show EncM (aY A) (if q = aN A then aD A else aH A q) (fun j => if 6 * aN A + 0 ≤ 6 * q + j ∧ 6 * q + j < 6 * aN A + 6 then τ'.1 8 (6 * q + j - 6 * aN A) else τ'.1 10 (6 * q + j)) (vp_updL (τ'.2 11) (aN A) (τ'.2 9 0) q)
              by_cases e : q = aN A
              · simp only [vp_updL, if_pos e]
                refine ⟨fun j hj => ?_, r3.2⟩
                show (if _ then _ else _) = _
                rw [if_pos (by omega), show 6 * q + j - 6 * aN A = 6 * 0 + j by omega]
                exact r3.1 j hj
              · have hq' : q < aN A := by have : q < aN A + 1 := hq; omega
                have hold := hM.2.2.1.2 q hq'
                simp only [vp_updL, if_neg e]
                rw [r1.2.2 11 (by omega), r1.1 10 (by omega)]
                refine ⟨fun j hj => ?_, hold.2⟩
                show (if _ then _ else _) = _
                rw [if_neg (by omega)]
                exact hold.1 j hj
            · show MI' (aY A) (aI A) _
              unfold MI'
              intro i hi
              have := hM.2.2.2.1 i hi
              rw [← r1.1 12 (by omega), ← r1.1 13 (by omega), ← r1.2.2 14 (by omega)] at this
              exact this
            · show MC (aS A) _
              intro i hi
              have := hM.2.2.2.2.1 i hi
              unfold shM at this
              rw [← r1.1 28 (by omega), ← r1.1 29 (by omega), ← r1.1 30 (by omega)] at this
              exact this
            · show τ'.1 0 51 = aT A
              rw [r1.2.1 51 (by omega)]; exact hM.2.2.2.2.2.2.1
            · show τ'.1 0 0 = aF A
              rw [r1.2.1 0 (by omega)]; exact hM.2.2.2.2.2.2.2
      · rw [if_neg q, if_neg (show ¬ (-3 : Int32) = 0 by decide), if_neg (show ¬ (0 : Int32) ≤ -3 by decide)]
        exact ⟨_, _, _, rfl, rfl, A, hA, x2, rm_same hM r1 r2 (by have := m2.2.2.2.2.1; rw [psh_none hA hkb q] at this; exact this)⟩
    · rw [rop_2 hA hX hk hd, pba_2 hA hM hk hd, bi_some, bi_some, if_neg (show ¬ (-2 : Int32) = 0 by decide), if_neg (show ¬ (0 : Int32) ≤ -2 by decide)]
      exact ⟨_, _, _, rfl, rfl, h⟩
  · rw [rop_1 hA hX hk, pba_1 hA hM hk, bi_some, bi_some, if_neg (show ¬ (-1 : Int32) = 0 by decide), if_neg (show ¬ (0 : Int32) ≤ -1 by decide)]
    exact ⟨_, _, _, rfl, rfl, h⟩

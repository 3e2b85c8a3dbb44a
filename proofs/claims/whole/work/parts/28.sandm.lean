/-! ===== sand: the reference; the call ===== -/
theorem lie_h {p g : Nat} (hp : p < 39) (hg : g < 2) : lieI p = (-20 : Int32) - nI g ↔ p = 37 + g :=
  (by decide +kernel : ∀ p, p < 39 → ∀ g, g < 2 → (lieI p = (-20 : Int32) - nI g ↔ p = 37 + g)) p hp g hg
theorem n4 (b : Nat) : (4 : Int32) * nI b = nI (4 * b) := pk_mul 4 b
theorem d4 {p : Nat} (hp : p < 2 ^ 31) : nI p / (4 : Int32) = nI (p / 4) := pk_div (d := 4) hp (by decide) (by decide)
theorem m4 {p : Nat} (hp : p < 2 ^ 31) : nI p - nI p / (4 : Int32) * (4 : Int32) = nI (p % 4) := pk_md (d := 4) hp (by decide) (by decide)
/-- what every try of the reference keeps -/
def InM (Y : Yd) (T : Nat → Bool) (τ0 τ : Mem) : Prop := MS' Y τ ∧ (∀ i, bit64 (τ.2 0 17) i = T i) ∧ FrM τ0 τ
theorem inm_sl {Y : Yd} {T : Nat → Bool} {τ0 τ τ' : Mem} {r : PR} (h : InM Y T τ0 τ) (hS : SlM Y r τ τ') : InM Y T τ0 τ' :=
  ⟨slm_ms hS h.1, fun i => by rw [hS.2.2.2.1 17 (by decide) (by decide)]; exact h.2.1 i, frm_trans h.2.2 (frm_sl hS)⟩
theorem inm_held {Y : Yd} {T : Nat → Bool} {τ0 τ : Mem} (h : InM Y T τ0 τ) (l : Nat) : InM Y T τ0 (heldM τ l) := ⟨frm_ms (held_fr τ l) h.1, h.2.1, frm_trans h.2.2 (held_fr τ l)⟩
theorem inm_given {Y : Yd} {T : Nat → Bool} {τ0 τ : Mem} (h : InM Y T τ0 τ) (l : Nat) : InM Y T τ0 (givenM τ l) := ⟨frm_ms (given_fr τ l) h.1, h.2.1, frm_trans h.2.2 (given_fr τ l)⟩
theorem gom {Y : Yd} (hY : WFY Y) {T : Nat → Bool} (hT : TOk Y T) {D : Dy} (hD : WFD Y D) {τ0 τ : Mem} (hI : InM Y T τ0 τ) (hE : EncM Y D (τ.1 4) (τ.2 0 8)) {p : Nat} (hp : p < 4 * db Y) : ∃ τ', FX9_goes τ (nI (p / 4)) (nI (p % 4)) = some (if anyT Y (pp Y T D p).2.1 then 1 else 0, τ') ∧ SlM Y (pp Y T D p) τ τ' ∧ InM Y T τ0 τ' := by
  obtain ⟨τ', e1, e2⟩ := goes_m hY hT hD hI.1 hI.2.1 hE (k := p / 4) (d := p % 4) (by omega) (by omega) (pu_ok hY hD (by omega))
  exact ⟨τ', e1, e2, inm_sl hI e2⟩
def cmG (Y : Yd) (T : Nat → Bool) (k g : Nat) (D : Dy) (p : Nat) : Bool := anyT Y (pp Y T D p).2.1 && decide ((pp Y T D p).1.1 k = 37 + g)
def cmH (Y : Yd) (T : Nat → Bool) (k g n : Nat) (D : Dy) (p : Nat) : Bool := anyT Y (pp Y T D p).2.1 && (decide ((pp Y T D p).1.1 k = 37 + g) || (decide (n = 2) && anyF (cmG Y T k g (pp Y T D p).1) 0 (4 * db Y)))
theorem cmH_bh {Y : Yd} (hY : WFY Y) {T : Nat → Bool} {D : Dy} (hD : WFD Y D) {k g n : Nat} (hn : n = 1 ∨ n = 2) (hk : D.1 k < 36) : anyF (cmH Y T k g n D) 0 (4 * db Y) = bh Y T k g n D := by
  obtain ⟨n', rfl⟩ : ∃ n', n = n' + 1 := ⟨n - 1, by omega⟩
  rw [bh_s]
  refine anyF_cong fun p _ hp => ?_
  unfold cmH bhF
  congr 1
  have h1 := pu_home hY hD (T := T) (b := p / 4) (d := p % 4) (k := k) (g := g) (by omega) (by omega)
  have hD1 := (pu_ok hY hD (T := T) (k := p / 4) (d := p % 4) (by omega)).1
  rw [show decide ((pp Y T D p).1.1 k = 37 + g) = decide ((pp Y T D p).2.2 = some (k, g)) from decide_eq_decide.mpr h1]
  by_cases q : (pp Y T D p).2.2 = some (k, g)
  · rw [decide_eq_true q, Bool.true_or, Bool.true_or]
  · rw [decide_eq_false q, Bool.false_or, Bool.false_or]
    rcases hn with e | e
    · have : n' = 0 := by omega
      subst this
      rfl
    · have : n' = 1 := by omega
      subst this
      rw [show decide (1 + 1 = 2) = true from rfl, Bool.true_and, bh_s]
      refine anyF_cong fun r _ hr => ?_
      unfold cmG bhF
      congr 1
      have h2 := pu_home hY hD1 (T := T) (b := r / 4) (d := r % 4) (k := k) (g := g) (by omega) (fun z => q (h1.mp z))
      rw [show decide ((pp Y T (pp Y T D p).1 r).1.1 k = 37 + g) = decide ((pp Y T (pp Y T D p).1 r).2.2 = some (k, g)) from decide_eq_decide.mpr h2]
      show _ = (decide _ || false)
      rw [Bool.or_false]
theorem cm_70 {Y : Yd} (hY : WFY Y) {T : Nat → Bool} (hT : TOk Y T) {D D1 : Dy} (hD1 : WFD Y D1) {τ0 : Mem} {k g n : Nat} (hk : k < db Y) (hg : g < 2) (hn : n = 1 ∨ n = 2) (rl6 : Mem → Int32 → Int32 → Int32 → Int32 → Int32 → Option (Int32 × Mem)) (p : Nat) : ∀ (m r fuel : Nat) (b : Bool) (τ : Mem), r + m = 4 * db Y → m + 1 < fuel → InM Y T τ0 τ → Held Y D 0 τ → Held Y D1 1 τ → ∃ τ', FX9_comesHome_70 rl6 fuel τ (nI k) (nI g) (nI n) (bI b) (nI p) (nI r) = rl6 τ' (nI k) (nI g) (nI n) (bI (b || (decide (n = 2) && anyF (cmG Y T k g D1) r m))) (nI (p + 1)) ∧ InM Y T τ0 τ' ∧ Held Y D 0 τ' := by
  have h6 := hY.2.1
  intro m
  induction m with
  | zero =>
    intro r fuel b τ hr hf hI hH hH1
    obtain ⟨f, rfl⟩ : ∃ f, fuel = f + 1 := ⟨fuel - 1, by omega⟩
    refine ⟨τ, ?_, hI, hH⟩
    show BX9_comesHome_70 rl6 (FX9_comesHome_70 rl6 f) τ _ _ _ _ _ _ = _
    unfold BX9_comesHome_70
    rw [hI.1.2.2.1, n4, if_pos (nI_le (by omega) (by omega)), nm_eq, nI_1]
    show rl6 τ _ _ _ (bI b) _ = rl6 τ _ _ _ (bI (b || (decide (n = 2) && false))) _
    rw [Bool.and_false, Bool.or_false]
  | succ m ih =>
    intro r fuel b τ hr hf hI hH hH1
    obtain ⟨f, rfl⟩ : ∃ f, fuel = f + 1 := ⟨fuel - 1, by omega⟩
    have un : FX9_comesHome_70 rl6 (f + 1) τ (nI k) (nI g) (nI n) (bI b) (nI p) (nI r) = BX9_comesHome_70 rl6 (FX9_comesHome_70 rl6 f) τ (nI k) (nI g) (nI n) (bI b) (nI p) (nI r) := rfl
    rw [un]
    unfold BX9_comesHome_70
    rw [hI.1.2.2.1, n4, if_neg (nI_ge (by omega) (by omega))]
    cases b with
    | true =>
      refine ⟨τ, ?_, hI, hH⟩
      rw [if_neg (show ¬ bI true = 0 by decide), nm_eq, nI_1, Bool.true_or]
    | false =>
      rw [if_pos (show bI false = 0 from rfl), Bool.false_or]
      rcases hn with rfl | rfl
      · refine ⟨τ, ?_, hI, hH⟩
        rw [if_neg (show ¬ nI 1 = (2 : Int32) by decide), nm_eq, nI_1]
        rfl
      · rw [if_pos (show nI 2 = (2 : Int32) from rfl), show (1 : Int32) = nI 1 from rfl, give_eq τ (by decide), bv_some]
        unfold dzI
        rw [if_neg (show ¬ (4 : Int32) = 0 by decide), if_neg (show ¬ (4 : Int32) = 0 by decide), m4 (by omega), d4 (by omega)]
        have hE : EncM Y D1 ((givenM τ 1).1 4) ((givenM τ 1).2 0 8) := given_enc hH1
        obtain ⟨τ1, g1, g2, g3⟩ := gom hY hT hD1 (inm_given hI 1) hE (show r < 4 * db Y by omega)
        have hH' : Held Y D 0 τ1 := sl_held g2 (given_held hH)
        have hH1' : Held Y D1 1 τ1 := sl_held g2 (given_held hH1)
        rw [g1, bi_some, show decide (2 = 2) = true from rfl, Bool.true_and]
        have ihf := ih (r + 1) f false τ1 (by omega) (by omega) g3 hH' hH1'
        have iht := ih (r + 1) f true τ1 (by omega) (by omega) g3 hH' hH1'
        rw [show decide (2 = 2) = true from rfl, Bool.true_and] at ihf iht
        unfold anyF
        have hc : cmG Y T k g D1 r = (anyT Y (pp Y T D1 r).2.1 && decide ((pp Y T D1 r).1.1 k = 37 + g)) := rfl
        rw [hc]
        cases ha : anyT Y (pp Y T D1 r).2.1
        · rw [if_neg (show ¬ false = true by decide), if_pos rfl, nm_eq, show nI r + nI 1 = nI (r + 1) from nI_1 r]
          rw [Bool.false_and, Bool.false_or]
          exact ihf
        · have hlt := wfd_lt hY (pu_ok hY hD1 (T := T) (k := r / 4) (d := r % 4) (by omega)).1 hk
          rw [if_pos rfl, if_neg (show ¬ (1 : Int32) = 0 by decide), rd_in (by omega) (by decide), g2.2.2.2.2.1.1 k (by omega), plM_in hk, Bool.true_and]
          by_cases q : (pp Y T D1 r).1.1 k = 37 + g
          · rw [if_pos ((lie_h hlt hg).mpr q), nm_eq, show nI r + nI 1 = nI (r + 1) from nI_1 r, decide_eq_true q, Bool.true_or]
            exact iht
          · rw [if_neg (fun z => q ((lie_h hlt hg).mp z)), nm_eq, show nI r + nI 1 = nI (r + 1) from nI_1 r, decide_eq_false q, Bool.false_or]
            exact ihf
theorem cm_6 {Y : Yd} (hY : WFY Y) {T : Nat → Bool} (hT : TOk Y T) {D : Dy} (hD : WFD Y D) {τ0 : Mem} {k g n : Nat} (hk : k < db Y) (hg : g < 2) (hn : n = 1 ∨ n = 2) : ∀ (m p fuel : Nat) (b : Bool) (τ : Mem), p + m = 4 * db Y → m + 1 < fuel → InM Y T τ0 τ → Held Y D 0 τ → ∃ τ', FX9_comesHome_6 fuel τ (nI k) (nI g) (nI n) (bI b) (nI p) = some (bI (b || anyF (cmH Y T k g n D) p m), τ') ∧ InM Y T τ0 τ' ∧ Held Y D 0 τ' ∧ EncM Y D (τ'.1 4) (τ'.2 0 8) := by
  have h6 := hY.2.1
  intro m
  induction m with
  | zero =>
    intro p fuel b τ hp hf hI hH
    obtain ⟨f, rfl⟩ : ∃ f, fuel = f + 1 := ⟨fuel - 1, by omega⟩
    refine ⟨givenM τ 0, ?_, inm_given hI 0, given_held hH, given_enc hH⟩
    show BX9_comesHome_6 (FX9_comesHome_6 f) τ _ _ _ _ _ = _
    unfold BX9_comesHome_6
    rw [hI.1.2.2.1, n4, if_pos (nI_le (by omega) (by omega)), show (0 : Int32) = nI 0 from rfl, give_eq τ (by decide), bv_some, rz_b]
    show some (bI b, _) = some (bI (b || false), _)
    rw [Bool.or_false]
  | succ m ih =>
    intro p fuel b τ hp hf hI hH
    obtain ⟨f, rfl⟩ : ∃ f, fuel = f + 1 := ⟨fuel - 1, by omega⟩
    have un : FX9_comesHome_6 (f + 1) τ (nI k) (nI g) (nI n) (bI b) (nI p) = BX9_comesHome_6 (FX9_comesHome_6 f) τ (nI k) (nI g) (nI n) (bI b) (nI p) := rfl
    rw [un]
    unfold BX9_comesHome_6
    rw [hI.1.2.2.1, n4, if_neg (nI_ge (by omega) (by omega))]
    cases b with
    | true =>
      refine ⟨givenM τ 0, ?_, inm_given hI 0, given_held hH, given_enc hH⟩
      rw [if_neg (show ¬ bI true = 0 by decide), show (0 : Int32) = nI 0 from rfl, give_eq τ (by decide), bv_some, rz_b, Bool.true_or]
    | false =>
      rw [if_pos (show bI false = 0 from rfl), show (0 : Int32) = nI 0 from rfl, give_eq τ (by decide), bv_some, Bool.false_or]
      unfold dzI
      rw [if_neg (show ¬ (4 : Int32) = 0 by decide), if_neg (show ¬ (4 : Int32) = 0 by decide), m4 (by omega), d4 (by omega)]
      have hE : EncM Y D ((givenM τ 0).1 4) ((givenM τ 0).2 0 8) := given_enc hH
      obtain ⟨τ1, g1, g2, g3⟩ := gom hY hT hD (inm_given hI 0) hE (show p < 4 * db Y by omega)
      have hH' : Held Y D 0 τ1 := sl_held g2 (given_held hH)
      have hD1 := (pu_ok hY hD (T := T) (k := p / 4) (d := p % 4) (by omega)).1
      rw [g1, bi_some]
      unfold anyF
      have hc : cmH Y T k g n D p = (anyT Y (pp Y T D p).2.1 && (decide ((pp Y T D p).1.1 k = 37 + g) || (decide (n = 2) && anyF (cmG Y T k g (pp Y T D p).1) 0 (4 * db Y)))) := rfl
      rw [hc]
      cases ha : anyT Y (pp Y T D p).2.1
      · rw [if_neg (show ¬ false = true by decide), if_pos (show (0 : Int32) = nI 0 from rfl), nm_eq, nI_1, Bool.false_and, Bool.false_or]
        exact ih (p + 1) f false τ1 (by omega) (by omega) g3 hH'
      · have hlt := wfd_lt hY hD1 hk
        rw [if_pos rfl, if_neg (show ¬ (1 : Int32) = nI 0 by decide), rd_in (by omega) (by decide), g2.2.2.2.2.1.1 k (by omega), plM_in hk, Bool.true_and]
        have go : ∀ b : Bool, ∃ τ', (bv (FX9_hold τ1 (1 : Int32)) fun σ38 => FX9_comesHome_70 (FX9_comesHome_6 f) FU σ38 (nI k) (nI g) (nI n) (bI b) (nI p) (nI 0)) = some (bI (b || (decide (n = 2) && anyF (cmG Y T k g (pp Y T D p).1) 0 (4 * db Y)) || anyF (cmH Y T k g n D) (p + 1) m), τ') ∧ InM Y T τ0 τ' ∧ Held Y D 0 τ' ∧ EncM Y D (τ'.1 4) (τ'.2 0 8) := by
          intro b
          rw [show (1 : Int32) = nI 1 from rfl, hold_eq τ1 (by decide), bv_some]
          obtain ⟨τ2, r1, r2, r3⟩ := cm_70 hY hT (D := D) hD1 hk hg hn (FX9_comesHome_6 f) p (4 * db Y) 0 FU b (heldM τ1 1) (by omega) (by show _ < 10000000; omega) (inm_held g3 1) (held_ne (by decide) hH') (held_ok g2.2.2.2.2.1)
          rw [r1]
          exact ih (p + 1) f _ τ2 (by omega) (by omega) r2 r3
        by_cases q : (pp Y T D p).1.1 k = 37 + g
        · rw [if_pos ((lie_h hlt hg).mpr q), decide_eq_true q]
          exact go true
        · rw [if_neg (fun z => q ((lie_h hlt hg).mp z)), decide_eq_false q]
          exact go false
theorem cmh_eq {Y : Yd} (hY : WFY Y) {T : Nat → Bool} (hT : TOk Y T) {D : Dy} (hD : WFD Y D) {τ0 τ : Mem} {k g n : Nat} (hk : k < db Y) (hkD : D.1 k < 36) (hg : g < 2) (hn : n = 1 ∨ n = 2) (hI : InM Y T τ0 τ) (hH : Held Y D 0 τ) : ∃ τ', FX9_comesHome τ (nI k) (nI g) (nI n) = some (bI (bh Y T k g n D), τ') ∧ InM Y T τ0 τ' ∧ Held Y D 0 τ' ∧ EncM Y D (τ'.1 4) (τ'.2 0 8) := by
  have h6 := hY.2.1
  obtain ⟨τ', r1, r2⟩ := cm_6 hY hT hD hk hg hn (4 * db Y) 0 FU false τ (by omega) (by show _ < 10000000; omega) hI hH
  rw [Bool.false_or, cmH_bh hY hD hn hkD] at r1
  exact ⟨τ', r1, r2⟩
theorem mas_eq {Y : Yd} (hY : WFY Y) {D : Dy} (hD : WFD Y D) {τ : Mem} (hM : MS' Y τ) (hE : EncM Y D (τ.1 4) (τ.2 0 8)) {c : Nat} (hc : c < dn Y) : FX9_maySand τ (nI c) = some (bI (freD Y D c), τ) := by
  have h36 := dn_le hY
  have h6 := hY.2.1
  have h5 := hY.2.2.1 c hc
  unfold FX9_maySand freD
  rw [rd_in (by omega) (by decide), hM.2.2.2.1 c hc, decide_eq_true hc, Bool.true_and]
  by_cases h0 : dg Y c = 0
  · rw [h0, if_pos (show nI 0 = 0 from rfl), bin_eq hY hD hM.2.2.1 (fun k hk => by rw [hE.1 k (by omega), plM_in hk]) (by omega), bi_some]
    cases hb : blkD Y D c with
    | none =>
      rw [if_neg (show ¬ 0 ≤ blkI none by decide), occ_f hc hb]
      rfl
    | some j =>
      have := (blkD_lt hb).1
      rw [if_pos (show 0 ≤ blkI (some j) from nI_pos' (by omega)), (occ_iff hc).mpr ⟨j, hb⟩]
      rfl
  · rw [if_neg (nI_ne0 (by omega) (by omega)), beq_false_of_ne h0]
    rfl
theorem setL2 {σ : Mem} {o k : Nat} {v : Int64} : (setL σ o k v).2 o k = v := by rw [setL_s2]; simp [vp_updL]
/-- the reference's memory between two tries -/
def SaM (Y : Yd) (D : Dy) (τ0 τ : Mem) : Prop := InM Y T0 τ0 τ ∧ Held Y D 0 τ ∧ EncM Y D (τ.1 4) (τ.2 0 8) ∧ τ.2 0 17 = 0
theorem sam_try {Y : Yd} (hY : WFY Y) {T : Nat → Bool} (hT : TOk Y T) {D : Dy} (hD : WFD Y D) {τ0 τ : Mem} {k g n : Nat} (hk : k < db Y) (hkD : D.1 k < 36) (hg : g < 2) (hn : n = 1 ∨ n = 2) (h : SaM Y D τ0 τ) {t : Int64} (ht : ∀ i, bit64 t i = T i) : ∃ τ', FX9_comesHome (setL τ 0 17 t) (nI k) (nI g) (nI n) = some (bI (bh Y T k g n D), τ') ∧ SaM Y D τ0 (setL τ' 0 17 0) := by
  obtain ⟨h1, h2, h3, h4⟩ := h
  have hfr : FrM τ (setL τ 0 17 t) := frm_setL (by omega)
  obtain ⟨τ', r1, r2, r3, r4⟩ := cmh_eq hY hT hD hk hkD hg hn (τ0 := τ0) (τ := setL τ 0 17 t) ⟨frm_ms hfr h1.1, fun i => by rw [setL2]; exact ht i, frm_trans h1.2.2 hfr⟩ h2
  have hfr2 : FrM τ' (setL τ' 0 17 0) := frm_setL (by omega)
  exact ⟨τ', r1, ⟨frm_ms hfr2 r2.1, fun i => by rw [setL2, w_0]; rfl, frm_trans r2.2.2 hfr2⟩, r3, r4, setL2⟩
theorem sm_175 {Y : Yd} (hY : WFY Y) {D : Dy} (hD : WFD Y D) {τ0 : Mem} {k g n : Nat} (hk : k < db Y) (hkD : D.1 k < 36) (hg : g < 2) (hn : n = 1 ∨ n = 2) (h0 : bh Y T0 k g n D = false) (h1 : ∀ c, freD Y D c = true → bh Y (sg c) k g n D = false) (rl : Mem → Int32 → Int32 → Int32 → Int32 → Int32 → Int32 → Int32 → Int32 → Option (Int32 × Mem)) (q : Int32) {c : Nat} (hc : c < dn Y) : ∀ (m x fuel : Nat) (τ : Mem), x + m = dn Y ∨ (m = 0 ∧ dn Y ≤ x ∧ x < 100) → m < fuel → SaM Y D τ0 τ → ∃ τ', FX9_sand_175 rl fuel τ (nI k) (nI g) (nI n) q (-9) (-9) (-9) (nI c) (nI x) = rl τ' (nI k) (nI g) (nI n) q (-9) (-9) (-9) (nI (c + 1)) ∧ SaM Y D τ0 τ' := by
  have h36 := dn_le hY
  intro m
  induction m with
  | zero =>
    intro x fuel τ hx hf hS
    obtain ⟨f, rfl⟩ : ∃ f, fuel = f + 1 := ⟨fuel - 1, by omega⟩
    refine ⟨τ, ?_, hS⟩
    show BX9_sand_175 rl (FX9_sand_175 rl f) τ _ _ _ _ _ _ _ _ _ = _
    unfold BX9_sand_175
    rw [cem_eq hS.1.1, bi_some, if_pos (nI_le (by omega) (by omega)), nm_eq, nI_1]
  | succ m ih =>
    intro x fuel τ hx hf hS
    obtain ⟨f, rfl⟩ : ∃ f, fuel = f + 1 := ⟨fuel - 1, by omega⟩
    have un : FX9_sand_175 rl (f + 1) τ (nI k) (nI g) (nI n) q (-9) (-9) (-9) (nI c) (nI x) = BX9_sand_175 rl (FX9_sand_175 rl f) τ (nI k) (nI g) (nI n) q (-9) (-9) (-9) (nI c) (nI x) := rfl
    rw [un]
    unfold BX9_sand_175
    rw [cem_eq hS.1.1, bi_some, if_neg (nI_ge (by omega) (by omega)), if_neg (show ¬ (0 : Int32) ≤ -9 by decide), mas_eq hY hD hS.1.1 hS.2.2.1 hc, bi_some]
    cases hfc : freD Y D c
    · rw [if_pos (show bI false = 0 from rfl), nm_eq, nI_1]
      exact ih (x + 1) f τ (by omega) (by omega) hS
    · rw [if_neg (show ¬ bI true = 0 by decide), mas_eq hY hD hS.1.1 hS.2.2.1 (show x < dn Y by omega), bi_some]
      cases hfx : freD Y D x
      · rw [if_pos (show bI false = 0 from rfl), nm_eq, nI_1]
        exact ih (x + 1) f τ (by omega) (by omega) hS
      · rw [if_neg (show ¬ bI true = 0 by decide), nm_eq]
        have hT : TOk Y (fun i => sg c i || sg x i) := fun i hi => by
          rw [Bool.or_eq_true] at hi
          rcases hi with z | z
          · exact sg_ok hfc i z
          · exact sg_ok hfx i z
        obtain ⟨τ', r1, r2⟩ := sam_try hY hT hD hk hkD hg hn hS (t := ((1 : Int64) <<< ((nI c).toInt64 &&& 63)) ||| ((1 : Int64) <<< ((nI x).toInt64 &&& 63))) (fun i => by rw [w_or, w_one (by omega), w_one (by omega)]; rfl)
        have hno : bh Y (fun i => sg c i || sg x i) k g n D = false := by
          cases hb : bh Y (fun i => sg c i || sg x i) k g n D
          · rfl
          · rcases bh_n hT hn hb with z | ⟨s, hs, z⟩
            · rw [h0] at z; cases z
            · rw [Bool.or_eq_true] at hs
              have : freD Y D s = true := by
                rcases hs with w | w
                · unfold sg at w; rw [decide_eq_true_eq] at w; rw [w]; exact hfc
                · unfold sg at w; rw [decide_eq_true_eq] at w; rw [w]; exact hfx
              rw [h1 s this] at z; cases z
        rw [r1, bi_some, hno, if_pos (show bI false = 0 from rfl), nm_eq, nm_eq, nI_1]
        exact ih (x + 1) f _ (by omega) (by omega) r2
theorem sm_155 {Y : Yd} (hY : WFY Y) {D : Dy} (hD : WFD Y D) {τ0 : Mem} {k g n : Nat} (hk : k < db Y) (hkD : D.1 k < 36) (hg : g < 2) (hn : n = 1 ∨ n = 2) (h0 : bh Y T0 k g n D = false) (h1 : ∀ c, freD Y D c = true → bh Y (sg c) k g n D = false) (q : Int32) : ∀ (m c fuel : Nat) (τ : Mem), c + m = dn Y → m < fuel → SaM Y D τ0 τ → ∃ τ', FX9_sand_155 fuel τ (nI k) (nI g) (nI n) q (-9) (-9) (-9) (nI c) = FX9_sand_258 τ' q (-9) (-9) (-9) ∧ SaM Y D τ0 τ' := by
  have h36 := dn_le hY
  intro m
  induction m with
  | zero =>
    intro c fuel τ hc hf hS
    obtain ⟨f, rfl⟩ : ∃ f, fuel = f + 1 := ⟨fuel - 1, by omega⟩
    refine ⟨τ, ?_, hS⟩
    show BX9_sand_155 (FX9_sand_155 f) τ _ _ _ _ _ _ _ _ = _
    unfold BX9_sand_155
    rw [cem_eq hS.1.1, bi_some, if_pos (nI_le (by omega) (by omega))]
  | succ m ih =>
    intro c fuel τ hc hf hS
    obtain ⟨f, rfl⟩ : ∃ f, fuel = f + 1 := ⟨fuel - 1, by omega⟩
    have un : FX9_sand_155 (f + 1) τ (nI k) (nI g) (nI n) q (-9) (-9) (-9) (nI c) = BX9_sand_155 (FX9_sand_155 f) τ (nI k) (nI g) (nI n) q (-9) (-9) (-9) (nI c) := rfl
    rw [un]
    unfold BX9_sand_155
    rw [cem_eq hS.1.1, bi_some, if_neg (nI_ge (by omega) (by omega)), if_neg (show ¬ (0 : Int32) ≤ -9 by decide), nm_eq, nI_1]
    obtain ⟨τ1, r1, r2⟩ := sm_175 hY hD hk hkD hg hn h0 h1 (FX9_sand_155 f) q (show c < dn Y by omega) (dn Y - (c + 1)) (c + 1) FU τ (by omega) (by show _ < 10000000; omega) hS
    rw [r1]
    exact ih (c + 1) f τ1 (by omega) (by omega) r2
theorem sm_end {Y : Yd} {D : Dy} {τ0 τ : Mem} (hS : SaM Y D τ0 τ) (a b c q x y : Int32) {v : Int32} (hv : 0 ≤ v) : FX9_sand_155 FU τ a b c q v x y 0 = FX9_sand_258 τ q v x y := by
  show BX9_sand_155 (FX9_sand_155 9999999) τ a b c q v x y 0 = _
  unfold BX9_sand_155
  rw [cem_eq hS.1.1, bi_some]
  by_cases z : nI (dn Y) ≤ 0
  · rw [if_pos z]
  · rw [if_neg z, if_pos hv]
def oneI (o : Option Nat) : Int32 := match o with
  | none => -9
  | some c => nI c
theorem finF_none {f : Nat → Bool} : ∀ {m p : Nat}, finF f p m = none → ∀ q, p ≤ q → q < p + m → f q = false := by
  intro m
  induction m with
  | zero => intro p _ q h1 h2; omega
  | succ m ih =>
    intro p h q h1 h2
    unfold finF at h
    cases hf : f p
    · rw [hf, if_neg (by decide)] at h
      by_cases e : q = p
      · rw [e]; exact hf
      · exact ih h q (by omega) (by omega)
    · rw [hf, if_pos rfl] at h; cases h
theorem sm_93 {Y : Yd} (hY : WFY Y) {D : Dy} (hD : WFD Y D) {τ0 : Mem} {k g n : Nat} (hk : k < db Y) (hkD : D.1 k < 36) (hg : g < 2) (hn : n = 1 ∨ n = 2) (h0 : bh Y T0 k g n D = false) (q : Int32) : ∀ (m c fuel : Nat) (τ : Mem), c + m = dn Y → m + 1 < fuel → (∀ c', c' < c → sandF Y D k g n c' = false) → SaM Y D τ0 τ → ∃ τ', FX9_sand_93 fuel τ (nI k) (nI g) (nI n) q (-9) (-9) (-9) (nI c) = FX9_sand_258 τ' q (fndI (finF (sandF Y D k g n) c m)) (oneI (finF (sandF Y D k g n) c m)) (-9) ∧ SaM Y D τ0 τ' := by
  have h36 := dn_le hY
  intro m
  induction m with
  | zero =>
    intro c fuel τ hc hf hb hS
    obtain ⟨f, rfl⟩ : ∃ f, fuel = f + 1 := ⟨fuel - 1, by omega⟩
    have un : FX9_sand_93 (f + 1) τ (nI k) (nI g) (nI n) q (-9) (-9) (-9) (nI c) = FX9_sand_155 FU τ (nI k) (nI g) (nI n) q (-9) (-9) (-9) (nI 0) := by
      show BX9_sand_93 (FX9_sand_93 f) τ _ _ _ _ _ _ _ _ = _
      unfold BX9_sand_93
      rw [cem_eq hS.1.1, bi_some, if_pos (nI_le (by omega) (by omega))]
      rfl
    rw [un]
    refine sm_155 hY hD hk hkD hg hn h0 (fun c' hc' => ?_) q (dn Y) 0 FU τ (by omega) (by show _ < 10000000; omega) hS
    have hlt : c' < dn Y := by
      unfold freD at hc'
      simp only [Bool.and_eq_true, decide_eq_true_eq] at hc'
      exact hc'.1.1
    have := hb c' (by omega)
    unfold sandF at this
    rw [hc', Bool.true_and] at this
    exact this
  | succ m ih =>
    intro c fuel τ hc hf hb hS
    obtain ⟨f, rfl⟩ : ∃ f, fuel = f + 1 := ⟨fuel - 1, by omega⟩
    have un : FX9_sand_93 (f + 1) τ (nI k) (nI g) (nI n) q (-9) (-9) (-9) (nI c) = BX9_sand_93 (FX9_sand_93 f) τ (nI k) (nI g) (nI n) q (-9) (-9) (-9) (nI c) := rfl
    rw [un]
    unfold BX9_sand_93 finF
    rw [cem_eq hS.1.1, bi_some, if_neg (nI_ge (by omega) (by omega)), if_neg (show ¬ (0 : Int32) ≤ -9 by decide), mas_eq hY hD hS.1.1 hS.2.2.1 (show c < dn Y by omega), bi_some]
    have stepb : sandF Y D k g n c = false → ∀ c', c' < c + 1 → sandF Y D k g n c' = false := fun h c' hc' => by
      by_cases e : c' = c
      · rw [e]; exact h
      · exact hb c' (by omega)
    cases hfc : freD Y D c
    · have e : sandF Y D k g n c = false := by unfold sandF; rw [hfc, Bool.false_and]
      rw [if_pos (show bI false = 0 from rfl), nm_eq, nI_1, e, if_neg (show ¬ false = true by decide)]
      exact ih (c + 1) f τ (by omega) (by omega) (stepb e) hS
    · rw [if_neg (show ¬ bI true = 0 by decide), nm_eq]
      obtain ⟨τ', r1, r2⟩ := sam_try hY (sg_ok hfc) hD hk hkD hg hn hS (t := (1 : Int64) <<< ((nI c).toInt64 &&& 63)) (fun i => w_one (by omega) i)
      rw [r1, bi_some]
      cases hbh : bh Y (sg c) k g n D
      · have e : sandF Y D k g n c = false := by unfold sandF; rw [hbh, Bool.and_false]
        rw [if_pos (show bI false = 0 from rfl), nm_eq, nm_eq, nI_1, e, if_neg (show ¬ false = true by decide)]
        exact ih (c + 1) f _ (by omega) (by omega) (stepb e) r2
      · have e : sandF Y D k g n c = true := by unfold sandF; rw [hbh, hfc]; rfl
        rw [if_neg (show ¬ bI true = 0 by decide), nm_eq, nm_eq, nI_1, e, if_pos rfl]
        obtain ⟨f', rfl⟩ : ∃ f', f = f' + 1 := ⟨f - 1, by omega⟩
        refine ⟨_, ?_, r2⟩
        show BX9_sand_93 (FX9_sand_93 f') (setL τ' 0 17 0) _ _ _ q 1 (nI c) (-9) (nI (c + 1)) = FX9_sand_258 (setL τ' 0 17 0) q 1 (nI c) (-9)
        unfold BX9_sand_93
        rw [cem_eq r2.1.1, bi_some]
        by_cases z : nI (dn Y) ≤ nI (c + 1)
        · rw [if_pos z, sm_end r2 _ _ _ _ _ _ (by decide)]
        · rw [if_neg z, if_pos (show (0 : Int32) ≤ 1 by decide), sm_end r2 _ _ _ _ _ _ (by decide)]

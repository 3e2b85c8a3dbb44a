/-! ===== won, first: the calls ===== -/
theorem isg_eq (σ : Mem) (g : Int32) : FX8_isGate σ g = some (if 0 ≤ g.toInt ∧ g.toInt ≤ 1 then 1 else 0, σ) := by
  unfold FX8_isGate
  by_cases h0 : g = 0
  · subst h0; rfl
  · rw [if_neg h0]
    by_cases h1 : g = 1
    · subst h1; rfl
    · rw [if_neg h1, if_neg (fun z => by
        obtain ⟨j, hj, rfl⟩ := blk2 (n := 1) (a := g) z
        rcases (show j = 0 ∨ j = 1 by omega) with rfl | rfl
        · exact h0 rfl
        · exact h1 rfl)]
      rfl
theorem mod4 {p : Nat} (hp : p < 2 ^ 31) : nI p - nI p / (4 : Int32) * (4 : Int32) = nI (p % 4) := m4 hp
theorem KK_le {d n : Nat} (hd : d ≤ 6) (hn : n ≤ 4) : KK (4 * d) n ≤ 1000000 :=
  (by decide +kernel : ∀ d, d < 7 → ∀ n, n < 5 → KK (4 * d) n ≤ 1000000) d (by omega) n (by omega)
theorem hw_eq {Y : Yd} (hY : WFY Y) {τ0 τ : Mem} {boy n : Nat} (hb2 : boy < 2) (hn : 1 ≤ n ∧ n ≤ 4) {D : Dy} (hD : WFD Y D) (hI : InM Y T0 τ0 τ) (hE : EncM Y D (τ.1 4) (τ.2 0 8)) : ∃ τ', FX9_hasWon τ (nI boy) (nI n) = some (bI (vl Y boy n true D), τ') ∧ InM Y T0 τ0 τ' ∧ EncM Y D (τ'.1 4) (τ'.2 0 8) ∧ ∀ p, finF (wpF Y boy (n - 1) D) 0 (4 * db Y) = some p → τ'.1 20 0 = nI (p + 1) ∧ τ'.1 22 0 = 0 := by
  have h6 := hY.2.1
  have hG : GmS Y τ0 n boy (setI (setI τ 0 43 (nI boy)) 0 42 (nI n)) := by
    have f1 : FrM τ (setI τ 0 43 (nI boy)) := frm_setI0 (by omega)
    have f2 : FrM (setI τ 0 43 (nI boy)) (setI (setI τ 0 43 (nI boy)) 0 42 (nI n)) := frm_setI0 (by omega)
    exact ⟨⟨frm_ms (frm_trans f1 f2) hI.1, hI.2.1, frm_trans hI.2.2 (frm_trans f1 f2)⟩, rfl, rfl⟩
  obtain ⟨a1, a2, a3, a4, a5⟩ := ent_ok hG (D := D) hE (l := 0)
  obtain ⟨r, rfl⟩ : ∃ r, n = r + 1 := ⟨n - 1, by omega⟩
  have hK := KK_le (d := db Y) (n := r + 1) h6 hn.2
  obtain ⟨F', τ', r1, r2, r3, r4, r5, r6, r7, r8⟩ := run_ok hY hb2 hn.2 r 0 (by omega) D _ FU hD a1 a2 a3 a4 (by show _ ≤ 10000000; omega)
  refine ⟨givenM τ' 0, ?_, inm_given r3.1 0, given_enc r6, fun p hp => r8 rfl p hp⟩
  unfold FX9_hasWon
  rw [nm_eq, nm_eq, show FX9_enter (setI (setI τ 0 43 (nI boy)) 0 42 (nI (r + 1))) (0 : Int32) = _ from ent_eq _ (l := 0) (by decide), bv_some, r1]
  unfold FX9_hasWon_37
  rw [if_pos (show nI 0 = 0 from rfl), give0, bv_some, rd0 (by decide) (by decide), show (givenM τ' 0).1 23 0 = τ'.1 23 0 from rfl, r5, rz_b]
  rfl
/-- in how few he has won -/
def wonN (Y : Yd) (boy : Nat) (D : Dy) : Nat → Nat → Option Nat := finF (fun n => vl Y boy n true D)
def wnI (o : Option Nat) : Int32 := match o with
  | none => -9
  | some n => nI n
theorem wi_loop {Y : Yd} (hY : WFY Y) {τ0 : Mem} {boy : Nat} (hb2 : boy < 2) {D : Dy} (hD : WFD Y D) : ∀ (m n fuel : Nat) (τ : Mem), n + m = 5 → 1 ≤ n → m < fuel → InM Y T0 τ0 τ → EncM Y D (τ.1 4) (τ.2 0 8) → ∃ τ', FX9_wonIn_2 fuel τ (nI boy) (nI n) = some (wnI (wonN Y boy D n m), τ') ∧ InM Y T0 τ0 τ' ∧ EncM Y D (τ'.1 4) (τ'.2 0 8) ∧ ∀ n' p, wonN Y boy D n m = some n' → finF (wpF Y boy (n' - 1) D) 0 (4 * db Y) = some p → τ'.1 20 0 = nI (p + 1) ∧ τ'.1 22 0 = 0 := by
  intro m
  induction m with
  | zero =>
    intro n fuel τ hn h1 hf hI hE
    obtain ⟨f, rfl⟩ : ∃ f, fuel = f + 1 := ⟨fuel - 1, by omega⟩
    refine ⟨τ, ?_, hI, hE, fun n' p h => by cases h⟩
    show BX9_wonIn_2 (FX9_wonIn_2 f) τ _ (nI n) = _
    unfold BX9_wonIn_2
    rw [if_pos (show (5 : Int32) ≤ nI n from nI_le (a := 5) (by omega) (by omega))]
    rfl
  | succ m ih =>
    intro n fuel τ hn h1 hf hI hE
    obtain ⟨f, rfl⟩ : ∃ f, fuel = f + 1 := ⟨fuel - 1, by omega⟩
    have un : FX9_wonIn_2 (f + 1) τ (nI boy) (nI n) = BX9_wonIn_2 (FX9_wonIn_2 f) τ (nI boy) (nI n) := rfl
    rw [un]
    unfold BX9_wonIn_2
    obtain ⟨τ1, e1, e2, e3, e4⟩ := hw_eq hY hb2 (n := n) ⟨h1, by omega⟩ hD hI hE
    rw [if_neg (show ¬ (5 : Int32) ≤ nI n from nI_ge (b := 5) (by omega) (by decide)), e1, bi_some]
    have hst : wonN Y boy D n (m + 1) = if vl Y boy n true D then some n else wonN Y boy D (n + 1) m := rfl
    rw [hst]
    cases hv : vl Y boy n true D
    · rw [if_pos (show bI false = 0 from rfl), nm_eq, nI_1, if_neg (by decide)]
      exact ih (n + 1) f τ1 (by omega) (by omega) (by omega) e2 e3
    · rw [if_neg (show ¬ bI true = 0 by decide), if_pos rfl]
      refine ⟨τ1, rfl, e2, e3, fun n' p hn' hp => ?_⟩
      cases hn'
      exact e4 p hp
theorem wp_eq {Y : Yd} (hY : WFY Y) {boy : Nat} (hb2 : boy < 2) {D : Dy} (hD : WFD Y D) {y : Int64} (hy : EncX Y D y) {r : Nat} (hr : r < 4) {σ : Mem} (hI : InX Y T0 σ) : ∃ σ', FTX0_winningPush σ y (nI boy) (nI (r + 1)) = some (wpI (finF (wpF Y boy r D) 0 (4 * db Y)), σ') ∧ InX Y T0 σ' ∧ KpX σ σ' :=
  (gmx_eq hY hb2 r 14 (by omega) (by omega) D y σ hD hy hI).1
theorem inx_set4 {Y : Yd} {T : Nat → Bool} {σ : Mem} (v : Int32) (hI : InX Y T σ) : InX Y T (setI σ 4 2 v) := by
  have e : ∀ o, o ≠ 4 → (setI σ 4 2 v).1 o = σ.1 o := fun o ho => setI_ne1 ho
  refine ⟨xs_cong (e 1 (by decide)) (e 18 (by decide)) (e 19 (by decide)) (e 20 (by decide)) (e 21 (by decide)) rfl hI.1, ?_, hI.2.2⟩
  unfold XLd at *
  have h22 : (setI σ 4 2 v).1 22 = σ.1 22 := e 22 (by decide)
  rw [h22]
  exact hI.2.1
theorem frx_set4 {σ : Mem} (v : Int32) : FrX σ (setI σ 4 2 v) := ⟨fun o ho => setI_ne1 (by omega), fun _ _ => rfl⟩
theorem set4_at (σ : Mem) (v : Int32) : (setI σ 4 2 v).1 4 2 = v := by rw [setI_s1]; simp [upd]
theorem lt_loop {Y : Yd} (hY : WFY Y) {boy : Nat} (hb2 : boy < 2) {D : Dy} (hD : WFD Y D) {y : Int64} (hy : EncX Y D y) : ∀ (m n fuel : Nat) (σ : Mem), n + m = 5 → 1 ≤ n → m < fuel → InX Y T0 σ → (n = 1 ∨ σ.1 4 2 = -9) → ∃ σ', FX0_leastTurns_3 fuel σ y (nI boy) (nI n) = some (wnI (wonN Y boy D n m), σ') ∧ InX Y T0 σ' ∧ FrX σ σ' ∧ (wonN Y boy D n m = none → σ'.1 4 2 = -9) ∧ ∀ n', wonN Y boy D n m = some n' → σ'.1 4 2 = wpI (finF (wpF Y boy (n' - 1) D) 0 (4 * db Y)) := by
  have h6 := hY.2.1
  intro m
  induction m with
  | zero =>
    intro n fuel σ hn h1 hf hI h9
    obtain ⟨f, rfl⟩ : ∃ f, fuel = f + 1 := ⟨fuel - 1, by omega⟩
    refine ⟨σ, ?_, hI, frx_rfl σ, fun _ => h9.resolve_left (by omega), fun n' h => by cases h⟩
    show BX0_leastTurns_3 (FX0_leastTurns_3 f) σ y _ (nI n) = _
    unfold BX0_leastTurns_3
    rw [if_pos (show (4 : Int32) < nI n from nI_lt (a := 4) (by omega) (by omega))]
    rfl
  | succ m ih =>
    intro n fuel σ hn h1 hf hI h9
    obtain ⟨f, rfl⟩ : ∃ f, fuel = f + 1 := ⟨fuel - 1, by omega⟩
    have un : FX0_leastTurns_3 (f + 1) σ y (nI boy) (nI n) = BX0_leastTurns_3 (FX0_leastTurns_3 f) σ y (nI boy) (nI n) := rfl
    rw [un]
    unfold BX0_leastTurns_3
    obtain ⟨r, rfl⟩ : ∃ r, n = r + 1 := ⟨n - 1, by omega⟩
    obtain ⟨σ1, e1, e2, e3⟩ := wp_eq hY hb2 hD hy (r := r) (by omega) hI
    have e2' := inx_set4 (wpI (finF (wpF Y boy r D) 0 (4 * db Y))) e2
    have e3' : FrX σ (setI σ1 4 2 (wpI (finF (wpF Y boy r D) 0 (4 * db Y)))) := frx_trans (kpx_fr e3) (frx_set4 _)
    rw [if_neg (show ¬ (4 : Int32) < nI (r + 1) from nI_nlt (a := 4) (by omega) (by decide)), e1, bi_some, nm_eq, set4_at]
    have hp := wpI_pos (o := finF (wpF Y boy r D) 0 (4 * db Y)) (fun p hp => by have := finF_lt hp; omega)
    have hno : (finF (wpF Y boy r D) 0 (4 * db Y)).isSome = false → wpI (finF (wpF Y boy r D) 0 (4 * db Y)) = -9 := fun z => by
      cases hf : finF (wpF Y boy r D) 0 (4 * db Y) with
      | none => rfl
      | some p => rw [hf] at z; cases z
    rw [finF_any, ← vl_t] at hp hno
    have hst : wonN Y boy D (r + 1) (m + 1) = if vl Y boy (r + 1) true D then some (r + 1) else wonN Y boy D (r + 1 + 1) m := rfl
    rw [hst]
    cases hv : vl Y boy (r + 1) true D
    · rw [if_pos (by
        have : ¬ 0 ≤ wpI (finF (wpF Y boy r D) 0 (4 * db Y)) := fun z => by rw [hp, hv] at z; cases z
        rw [toInt_le] at this
        rw [toInt_lt]
        omega), nm_eq, nI_1, if_neg (by decide)]
      obtain ⟨σ', r1, r2, r3, r4, r5⟩ := ih (r + 1 + 1) f _ (by omega) (by omega) (by omega) e2' (Or.inr (by rw [set4_at]; exact hno hv))
      exact ⟨σ', r1, r2, frx_trans e3' r3, r4, r5⟩
    · rw [if_neg (by
        have := hp.mpr hv
        rw [toInt_le] at this
        rw [toInt_lt]
        omega), if_pos rfl]
      exact ⟨_, rfl, e2', e3', (fun z => by cases z), fun n' hn' => by cases hn'; exact set4_at _ _⟩
theorem inx_rx {A : As} {σ σ' : Mem} (hX : RX A σ) (hI : InX (aY A) T0 σ') (hK : KpX σ σ') : RX A σ' := rx_fr hX (kpx_fr hK) hI.2.1 (w_ext fun i _ => by rw [hI.2.2 i, w_0]; rfl)
theorem inx_rf {A : As} {σ σ' : Mem} (hX : RX A σ) (hI : InX (aY A) T0 σ') (hK : FrX σ σ') : RX A σ' := rx_fr hX hK hI.2.1 (w_ext fun i _ => by rw [hI.2.2 i, w_0]; rfl)
theorem rx_inx {A : As} {σ : Mem} (hX : RX A σ) : InX (aY A) T0 σ := ⟨hX.1, hX.2.2.2.2.2.1.2, x_T0 hX⟩
theorem rm_inm {A : As} {τ : Mem} (hM : RM A τ) : InM (aY A) T0 τ τ := ⟨hM.1, m_T0 hM, frm_rfl τ⟩
theorem inm_rm {A : As} {τ τ' : Mem} (hM : RM A τ) (hI : InM (aY A) T0 τ τ') (hE : EncM (aY A) (aD A) (τ'.1 4) (τ'.2 0 8)) : RM A τ' := rm_same hM hI.2.2 (w_ext fun i _ => by rw [hI.2.1 i, w_0]; rfl) hE
theorem in01 (τ : Mem) (a : Int32) : FX9_in τ (a.toInt64) (0 : Int64) (1 : Int64) = some ((if 0 ≤ a.toInt ∧ a.toInt ≤ 1 then (1 : Int32) else 0), τ) := by
  rw [in_eq, i64_toInt]; rfl
theorem sim_won : Sim_won RelW := by
  intro σ τ a h
  obtain ⟨A, hA, hX, hM⟩ := id h
  unfold FX8_won FX9_won
  rw [isg_eq, in01, bi_some, bi_some]
  by_cases hg : 0 ≤ a.toInt ∧ a.toInt ≤ 1
  · obtain ⟨boy, hb, rfl⟩ := blk2 (n := 1) hg
    rw [if_pos hg, if_neg (show ¬ (1 : Int32) = 0 by decide), if_neg (show ¬ (1 : Int32) = 0 by decide)]
    obtain ⟨σ', x1, x2, x3, x4, x5⟩ := lt_loop hA.1 (boy := boy) (by omega) hA.2.1 hX.2.1 4 1 FU σ rfl (by decide) (by show 4 < 10000000; omega) (rx_inx hX) (Or.inl rfl)
    obtain ⟨τ', m1, m2, m3, m4⟩ := wi_loop hA.1 (boy := boy) (by omega) hA.2.1 4 1 FU τ rfl (by decide) (by show 4 < 10000000; omega) (rm_inm hM) hM.2.1
    unfold FX0_leastTurns FX9_wonIn
    rw [show FX0_leastTurns_3 FU σ (σ.2 0 9) (nI boy) 1 = _ from x1, show FX9_wonIn_2 FU τ (nI boy) 1 = _ from m1, bi_some, bi_some]
    exact ⟨_, _, _, rfl, rfl, A, hA, inx_rf hX x2 x3, inm_rm hM m2 m3⟩
  · rw [if_neg hg, if_pos rfl, if_pos rfl]
    exact ⟨_, _, _, rfl, rfl, h⟩
theorem sim_first : Sim_first RelW := by
  intro σ τ a h
  obtain ⟨A, hA, hX, hM⟩ := id h
  have h6 := hA.1.2.1
  unfold FX8_first FX9_first
  rw [isg_eq, in01, bi_some, bi_some]
  by_cases hg : 0 ≤ a.toInt ∧ a.toInt ≤ 1
  · obtain ⟨boy, hb, rfl⟩ := blk2 (n := 1) hg
    rw [if_pos hg, if_neg (show ¬ (1 : Int32) = 0 by decide), if_neg (show ¬ (1 : Int32) = 0 by decide)]
    obtain ⟨σ', x1, x2, x3, x4, x5⟩ := lt_loop hA.1 (boy := boy) (by omega) hA.2.1 hX.2.1 4 1 FU σ rfl (by decide) (by show 4 < 10000000; omega) (rx_inx hX) (Or.inl rfl)
    obtain ⟨τ', m1, m2, m3, m4⟩ := wi_loop hA.1 (boy := boy) (by omega) hA.2.1 4 1 FU τ rfl (by decide) (by show 4 < 10000000; omega) (rm_inm hM) hM.2.1
    unfold FX0_leastTurns FX9_wonIn
    rw [show FX0_leastTurns_3 FU σ (σ.2 0 9) (nI boy) 1 = _ from x1, show FX9_wonIn_2 FU τ (nI boy) 1 = _ from m1, bi_some, bi_some]
    have hX1 := inx_rf hX x2 x3
    cases hw : wonN (aY A) boy (aD A) 1 4 with
    | none =>
      rw [if_pos (show wnI none < 0 by decide), x4 hw]
      exact ⟨_, _, _, rfl, rfl, A, hA, hX1, inm_rm hM m2 m3⟩
    | some n =>
      have hn := finF_lt (f := fun n => vl (aY A) boy n true (aD A)) hw
      obtain ⟨r, rfl⟩ : ∃ r, n = r + 1 := ⟨n - 1, by omega⟩
      rw [if_neg (show ¬ wnI (some (r + 1)) < 0 from nI_pos (by omega)), x5 (r + 1) hw, Nat.add_sub_cancel]
      have hsome : (finF (wpF (aY A) boy r (aD A)) 0 (4 * db (aY A))).isSome = true := by rw [finF_any, ← vl_t]; exact hn.2.2
      cases hf : finF (wpF (aY A) boy r (aD A)) 0 (4 * db (aY A)) with
      | none => rw [hf] at hsome; cases hsome
      | some p =>
        have hp := finF_lt hf
        obtain ⟨q1, q2⟩ := m4 (r + 1) p hw hf
        unfold dzI
        rw [rd0 (by decide) (by decide), q2, if_pos rfl, rd0 (by decide) (by decide), q1, nI_pred, nm_eq, if_neg (show ¬ (4 : Int32) = 0 by decide), if_neg (show ¬ (4 : Int32) = 0 by decide), mod4 (by omega), d4 (by omega), show (10 : Int32) * nI (p / 4) + nI (p % 4) = nI (num p) by rw [show (10 : Int32) = nI 10 from rfl, pk_mul, nI_add]; rfl]
        exact ⟨_, _, _, rfl, rfl, A, hA, hX1, inm_rm hM m2 m3⟩
  · rw [if_neg hg, if_pos rfl, if_pos rfl]
    exact ⟨_, _, _, rfl, rfl, h⟩

/-! ===== won, first: the calls ===== -/
theorem isg_eq (σ : Mem) (g : Int32) : FX8_isGate σ g = some (if 0 ≤ g.toInt ∧ g.toInt ≤ 1 then 1 else 0, σ) := by
  unfold FX8_isGate
  by_cases h0 : g = 0
  · subst h0; rfl
  · rw [if_neg h0]
    by_cases h1 : g = 1
    · subst h1; rfl
    · rw [if_neg h1, if_neg (fun z => by
        obtain ⟨j, hj, rfl⟩ := blk2 (n := 1) (a := g) z
        rcases (show j = 0 ∨ j = 1 by omega) with rfl | rfl
        · exact h0 rfl
        · exact h1 rfl)]
      rfl
theorem mod4 {p : Nat} (hp : p < 2 ^ 31) : nI p - nI p / (4 : Int32) * (4 : Int32) = nI (p % 4) := m4 hp
theorem KK_le {d n : Nat} (hd : d ≤ 6) (hn : n ≤ 4) : KK (4 * d) n ≤ 1000000 :=
  (by decide +kernel : ∀ d, d < 7 → ∀ n, n < 5 → KK (4 * d) n ≤ 1000000) d (by omega) n (by omega)
/-- in how few he has won -/
def wonN (Y : Yd) (boy : Nat) (D : Dy) : Nat → Nat → Option Nat := finF (fun n => vl Y boy n true D)
def wnI (o : Option Nat) : Int32 := match o with
  | none => -9
  | some n => nI n
theorem wp_eq {Y : Yd} (hY : WFY Y) {boy : Nat} (hb2 : boy < 2) {D : Dy} (hD : WFD Y D) {y : Int64} (hy : EncX Y D y) {r : Nat} (hr : r < 4) {σ : Mem} (hI : InX Y T0 σ) : ∃ σ', FTX0_winningPush σ y (nI boy) (nI (r + 1)) = some (wpI (finF (wpF Y boy r D) 0 (4 * db Y)), σ') ∧ InX Y T0 σ' ∧ KpX σ σ' :=
  (gmx_eq hY hb2 r 14 (by omega) (by omega) D y σ hD hy hI).1
theorem inx_set4 {Y : Yd} {T : Nat → Bool} {σ : Mem} (v : Int32) (hI : InX Y T σ) : InX Y T (setI σ 4 2 v) := by
  have e : ∀ o, o ≠ 4 → (setI σ 4 2 v).1 o = σ.1 o := fun o ho => setI_ne1 ho
  refine ⟨xs_cong (e 1 (by decide)) (e 18 (by decide)) (e 19 (by decide)) (e 20 (by decide)) (e 21 (by decide)) rfl hI.1, ?_, hI.2.2⟩
  unfold XLd at *
  have h22 : (setI σ 4 2 v).1 22 = σ.1 22 := e 22 (by decide)
  rw [h22]
  exact hI.2.1
theorem frx_set4 {σ : Mem} (v : Int32) : FrX σ (setI σ 4 2 v) := ⟨fun o ho => setI_ne1 (by omega), fun _ _ => rfl⟩
theorem set4_at (σ : Mem) (v : Int32) : (setI σ 4 2 v).1 4 2 = v := by rw [setI_s1]; simp [upd]
theorem lt_loop {Y : Yd} (hY : WFY Y) {boy : Nat} (hb2 : boy < 2) {D : Dy} (hD : WFD Y D) {y : Int64} (hy : EncX Y D y) : ∀ (m n fuel : Nat) (σ : Mem), n + m = 5 → 1 ≤ n → m < fuel → InX Y T0 σ → (n = 1 ∨ σ.1 4 2 = -9) → ∃ σ', FX0_leastTurns_3 fuel σ y (nI boy) (nI n) = some (wnI (wonN Y boy D n m), σ') ∧ InX Y T0 σ' ∧ FrX σ σ' ∧ (wonN Y boy D n m = none → σ'.1 4 2 = -9) ∧ ∀ n', wonN Y boy D n m = some n' → σ'.1 4 2 = wpI (finF (wpF Y boy (n' - 1) D) 0 (4 * db Y)) := by
  have h6 := hY.2.1
  intro m
  induction m with
  | zero =>
    intro n fuel σ hn h1 hf hI h9
    obtain ⟨f, rfl⟩ : ∃ f, fuel = f + 1 := ⟨fuel - 1, by omega⟩
    refine ⟨σ, ?_, hI, frx_rfl σ, fun _ => h9.resolve_left (by omega), fun n' h => by cases h⟩
    show BX0_leastTurns_3 (FX0_leastTurns_3 f) σ y _ (nI n) = _
    unfold BX0_leastTurns_3
    rw [if_pos (show (4 : Int32) < nI n from nI_lt (a := 4) (by omega) (by omega))]
    rfl
  | succ m ih =>
    intro n fuel σ hn h1 hf hI h9
    obtain ⟨f, rfl⟩ : ∃ f, fuel = f + 1 := ⟨fuel - 1, by omega⟩
    have un : FX0_leastTurns_3 (f + 1) σ y (nI boy) (nI n) = BX0_leastTurns_3 (FX0_leastTurns_3 f) σ y (nI boy) (nI n) := rfl
    rw [un]
    unfold BX0_leastTurns_3
    obtain ⟨r, rfl⟩ : ∃ r, n = r + 1 := ⟨n - 1, by omega⟩
    obtain ⟨σ1, e1, e2, e3⟩ := wp_eq hY hb2 hD hy (r := r) (by omega) hI
    have e2' := inx_set4 (wpI (finF (wpF Y boy r D) 0 (4 * db Y))) e2
    have e3' : FrX σ (setI σ1 4 2 (wpI (finF (wpF Y boy r D) 0 (4 * db Y)))) := frx_trans (kpx_fr e3) (frx_set4 _)
    rw [if_neg (show ¬ (4 : Int32) < nI (r + 1) from nI_nlt (a := 4) (by omega) (by decide)), e1, bi_some, nm_eq, set4_at]
    have hp := wpI_pos (o := finF (wpF Y boy r D) 0 (4 * db Y)) (fun p hp => by have := finF_lt hp; omega)
    have hno : (finF (wpF Y boy r D) 0 (4 * db Y)).isSome = false → wpI (finF (wpF Y boy r D) 0 (4 * db Y)) = -9 := fun z => by
      cases hf : finF (wpF Y boy r D) 0 (4 * db Y) with
      | none => rfl
      | some p => rw [hf] at z; cases z
    rw [finF_any, ← vl_t] at hp hno
    have hst : wonN Y boy D (r + 1) (m + 1) = if vl Y boy (r + 1) true D then some (r + 1) else wonN Y boy D (r + 1 + 1) m := rfl
    rw [hst]
    cases hv : vl Y boy (r + 1) true D
    · rw [if_pos (by
        have : ¬ 0 ≤ wpI (finF (wpF Y boy r D) 0 (4 * db Y)) := fun z => by rw [hp, hv] at z; cases z
        rw [toInt_le] at this
        rw [toInt_lt]
        omega), nm_eq, nI_1, if_neg (by decide)]
      obtain ⟨σ', r1, r2, r3, r4, r5⟩ := ih (r + 1 + 1) f _ (by omega) (by omega) (by omega) e2' (Or.inr (by rw [set4_at]; exact hno hv))
      exact ⟨σ', r1, r2, frx_trans e3' r3, r4, r5⟩
    · rw [if_neg (by
        have := hp.mpr hv
        rw [toInt_le] at this
        rw [toInt_lt]
        omega), if_pos rfl]
      exact ⟨_, rfl, e2', e3', (fun z => by cases z), fun n' hn' => by cases hn'; exact set4_at _ _⟩
theorem inx_rx {A : As} {σ σ' : Mem} (hX : RX A σ) (hI : InX (aY A) T0 σ') (hK : KpX σ σ') : RX A σ' := rx_fr hX (kpx_fr hK) hI.2.1 (w_ext fun i _ => by rw [hI.2.2 i, w_0]; rfl)
theorem inx_rf {A : As} {σ σ' : Mem} (hX : RX A σ) (hI : InX (aY A) T0 σ') (hK : FrX σ σ') : RX A σ' := rx_fr hX hK hI.2.1 (w_ext fun i _ => by rw [hI.2.2 i, w_0]; rfl)
theorem rx_inx {A : As} {σ : Mem} (hX : RX A σ) : InX (aY A) T0 σ := ⟨hX.1, hX.2.2.2.2.2.1.2, x_T0 hX⟩
theorem rm_inm {A : As} {τ : Mem} (hM : RM A τ) : InM (aY A) T0 τ τ := ⟨hM.1, m_T0 hM, frm_rfl τ⟩
theorem inm_rm {A : As} {τ τ' : Mem} (hM : RM A τ) (hI : InM (aY A) T0 τ τ') (hE : EncM (aY A) (aD A) (τ'.1 4) (τ'.2 0 8)) : RM A τ' := rm_same hM hI.2.2 (w_ext fun i _ => by rw [hI.2.1 i, w_0]; rfl) hE

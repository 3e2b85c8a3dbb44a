/-! ===== the class's calls that the law makes: what they answer, in the abstract ===== -/
theorem gate2 (σ : Mem) : FX8_isGate σ 2 = some (0, σ) := by rw [isg_eq, if_neg (by decide)]
theorem gatem (σ : Mem) : FX8_isGate σ (-1) = some (0, σ) := by rw [isg_eq, if_neg (by decide)]
theorem gate_in (σ : Mem) {g : Nat} (hg : g < 2) : FX8_isGate σ (nI g) = some (1, σ) := by
  rw [isg_eq, if_pos (by rw [nI_toInt (by omega)]; omega)]
theorem few_2 (σ : Mem) (q : Int32) : FX8_fewest σ 2 q = some (-1, σ) := by
  unfold FX8_fewest
  rw [gate2, bi_some, if_pos rfl]
theorem won_m (σ : Mem) : FX8_won σ (-1) = some (-1, σ) := by
  unfold FX8_won
  rw [gatem, bi_some, if_pos rfl]
theorem won_x {A : As} {σ : Mem} (hA : WA A) (hX : RX A σ) {boy : Nat} (hb : boy < 2) : ∃ σ', FX8_won σ (nI boy) = some (wnI (wonN (aY A) boy (aD A) 1 4), σ') ∧ RX A σ' := by
  unfold FX8_won
  rw [gate_in σ hb, bi_some, if_neg (show ¬ (1 : Int32) = 0 by decide)]
  obtain ⟨σ', x1, x2, x3, x4, x5⟩ := lt_loop hA.1 (boy := boy) hb hA.2.1 hX.2.1 4 1 FU σ rfl (by decide) (by show 4 < 10000000; omega) (rx_inx hX) (Or.inl rfl)
  unfold FX0_leastTurns
  rw [show FX0_leastTurns_3 FU σ (σ.2 0 9) (nI boy) 1 = _ from x1, bi_some]
  exact ⟨σ', rfl, inx_rf hX x2 x3⟩
theorem first_x {A : As} {σ : Mem} (hA : WA A) (hX : RX A σ) {boy : Nat} (hb : boy < 2) {n : Nat} (hn : wonN (aY A) boy (aD A) 1 4 = some n) : ∃ σ', FX8_first σ (nI boy) = some (wpI (finF (wpF (aY A) boy (n - 1) (aD A)) 0 (4 * db (aY A))), σ') ∧ RX A σ' := by
  unfold FX8_first
  rw [gate_in σ hb, bi_some, if_neg (show ¬ (1 : Int32) = 0 by decide)]
  obtain ⟨σ', x1, x2, x3, x4, x5⟩ := lt_loop hA.1 (boy := boy) hb hA.2.1 hX.2.1 4 1 FU σ rfl (by decide) (by show 4 < 10000000; omega) (rx_inx hX) (Or.inl rfl)
  unfold FX0_leastTurns
  rw [show FX0_leastTurns_3 FU σ (σ.2 0 9) (nI boy) 1 = _ from x1, bi_some, x5 n hn]
  exact ⟨σ', rfl, inx_rf hX x2 x3⟩
theorem ofb_x {A : As} {σ : Mem} (hA : WA A) (hX : RX A σ) {k : Nat} (hk : k < db (aY A)) : FX8_ofBlock σ (nI k) 1 = some (lieI ((aD A).1 k), σ) := by
  have h6 := hA.1.2.1
  unfold FX8_ofBlock
  rw [hab_eq hX.1.2.2.1 h6, if_pos (show 0 ≤ (nI k).toInt ∧ (nI k).toInt < db (aY A) by rw [nI_toInt (by omega)]; omega), bi_some, if_neg (show ¬ (1 : Int32) = 0 by decide), if_neg (show ¬ (1 : Int32) = 0 by decide), if_pos rfl, whi_eq hA.1 hA.2.1 hX.2.1 hk, bi_some]
theorem push_x {A : As} {σ : Mem} (hA : WA A) (hX : RX A σ) {k d : Nat} (hk : k < db (aY A)) (hd : d < 4) (hn : aN A < 200) (hg : anyT (aY A) (psh A k d).2.1 = true) : ∃ σ', FX8_push σ (nI k) (nI d) = some (lieI ((psh A k d).1.1 k), σ') ∧ ∃ A', WA A' ∧ RX A' σ' ∧ aY A' = aY A ∧ aD A' = (psh A k d).1 ∧ aN A' = aN A + 1 := by
  have h6 := hA.1.2.1
  obtain ⟨σ', x1, x2, x3, x4⟩ := rop_ok hA hX hk hd
  have hP := pu_ok (T := T0) hA.1 hA.2.1 hk (d := d)
  have hxn : σ'.1 0 10 = nI (aN A) := x2.2.2.1.1
  unfold FX8_push
  rw [x1, if_pos hg, bi_some, if_pos (show (0 : Int32) = 0 from rfl), hxn, if_neg (nI_pos (by omega)), if_pos (show nI (aN A) < (200 : Int32) from nI_lt (b := 200) hn (by decide)), stL_in hn (by decide), nm_eq, nm_eq]
  have hen : EncX (aY A) (psh A k d).1 ((setL (setI (setL σ' 16 (aN A) (σ'.2 0 9)) 0 10 ((setL σ' 16 (aN A) (σ'.2 0 9)).1 0 10 + 1)) 0 9 ((setI (setL σ' 16 (aN A) (σ'.2 0 9)) 0 10 ((setL σ' 16 (aN A) (σ'.2 0 9)).1 0 10 + 1)).2 2 6)).2 0 9) := x3
  rw [whi_eq hA.1 hP.1 hen hk, bi_some]
  refine ⟨_, rfl, wP A (psh A k d).1 (aN A + 1) (fun q => if q = aN A then aD A else aH A q), ?_, ?_, rfl, rfl, rfl⟩
  · refine ⟨hA.1, hP.1, show aN A + 1 ≤ 200 by omega, fun q hq => ?_, hA.2.2.2.2⟩
    show WFD (aY A) (if q = aN A then aD A else aH A q)
    by_cases e : q = aN A
    · rw [if_pos e]; exact hA.2.1
    · rw [if_neg e]; exact hA.2.2.2.1 q (by have : q < aN A + 1 := hq; omega)
  · have xn : (setL σ' 16 (aN A) (σ'.2 0 9)).1 0 10 + 1 = nI (aN A + 1) := by
      rw [show (setL σ' 16 (aN A) (σ'.2 0 9)).1 0 10 = nI (aN A) from hxn, nI_1]
    refine ⟨x2.1, x3, ⟨xn, fun q hq => ?_⟩, x2.2.2.2.1, x2.2.2.2.2.1, x2.2.2.2.2.2.1, x2.2.2.2.2.2.2.1, x2.2.2.2.2.2.2.2⟩
    show EncX (aY A) (if q = aN A then aD A else aH A q) (vp_updL (σ'.2 16) (aN A) (σ'.2 0 9) q)
    by_cases e : q = aN A
    · simp only [vp_updL, if_pos e]; exact x2.2.1
    · simp only [vp_updL, if_neg e]; exact x2.2.2.1.2 q (by have : q < aN A + 1 := hq; omega)
theorem sand_bad {A : As} {σ : Mem} (hA : WA A) (hX : RX A σ) (g n q : Int32) : FX8_sand σ (nI (db (aY A))) g n q = some (-1, σ) := by
  have h6 := hA.1.2.1
  unfold FX8_sand
  rw [hab_eq hX.1.2.2.1 h6, if_neg (by rw [nI_toInt (by omega)]; omega), bi_some, if_pos rfl]
/-- sand for one push: none is needed, or it doesn't help -/
def sndI (A : As) (k g : Nat) : Int32 := if (aD A).1 k < 36 ∧ bh (aY A) T0 k g 1 (aD A) = true then 0 else -9
theorem sandF_no {Y : Yd} {D : Dy} {k g : Nat} (h : bh Y T0 k g 1 D = false) (c : Nat) : sandF Y D k g 1 c = false := by
  unfold sandF
  cases hf : freD Y D c
  · rfl
  · rw [Bool.true_and]
    cases hb : bh Y (sg c) k g 1 D
    · rfl
    · have hT : TOk Y (sg c) := fun i hi => by
        unfold sg at hi
        rw [decide_eq_true_eq] at hi
        subst hi
        unfold freD at hf
        simp only [Bool.and_eq_true, decide_eq_true_eq, beq_iff_eq] at hf
        exact hf.1
      have := bh_1 hT (T' := T0) (fun i hi => by cases hi) hb
      rw [h] at this
      cases this
theorem sand_x {A : As} {σ : Mem} (hA : WA A) (hX : RX A σ) {k g : Nat} (hk : k < db (aY A)) (hg : g < 2) {q : Int32} (hq : q = -1 ∨ q = 0 ∨ q = 1) : ∃ σ', FX8_sand σ (nI k) (nI g) 1 q = some (if q = -1 then sndI A k g else -9, σ') ∧ RX A σ' := by
  have h6 := hA.1.2.1
  obtain ⟨σ', x1, x2, x3⟩ := fcx_eq hA hX hk hg (n := 1) (.inl rfl)
  refine ⟨σ', ?_, x2⟩
  have hv : sandN A k g 1 = sndI A k g := by
    unfold sandN sndI
    by_cases h1 : (aD A).1 k < 36
    · rw [if_pos h1]
      by_cases h2 : bh (aY A) T0 k g 1 (aD A) = true
      · rw [if_pos h2, if_pos ⟨h1, h2⟩]
      · have h3 : bh (aY A) T0 k g 1 (aD A) = false := by revert h2; cases bh (aY A) T0 k g 1 (aD A) <;> simp
        rw [if_neg h2, if_neg (fun z => h2 z.2)]
        cases hf : finF (sandF (aY A) (aD A) k g 1) 0 (dn (aY A)) with
        | none => rfl
        | some c =>
          have := (finF_lt hf).2.2
          rw [sandF_no h3] at this
          cases this
    · rw [if_neg h1, if_neg (fun z => h1 z.1)]
  have hv2 : sandN A k g 1 = -9 ∨ sandN A k g 1 = 0 := by
    rw [hv]; unfold sndI
    by_cases h : (aD A).1 k < 36 ∧ bh (aY A) T0 k g 1 (aD A) = true
    · rw [if_pos h]; exact .inr rfl
    · rw [if_neg h]; exact .inl rfl
  unfold FX8_sand
  rw [hab_eq hX.1.2.2.1 h6, if_pos (by rw [nI_toInt (by omega)]; omega), bi_some, if_neg (show ¬ (1 : Int32) = 0 by decide), gate_in σ hg, bi_some, if_neg (show ¬ (1 : Int32) = 0 by decide), if_neg (by rcases hq with rfl | rfl | rfl <;> decide), if_pos (by rcases hq with rfl | rfl | rfl <;> decide), if_neg (by decide), if_pos (by decide), show FX3_fewestCells σ (σ.2 0 9) (nI k) (nI g) (1 : Int32) = _ from x1, bi_some, ← hv]
  rcases hv2 with v | v
  · rw [v, if_pos (by decide)]
    rcases hq with rfl | rfl | rfl <;> rfl
  · rw [v, if_neg (by decide)]
    rcases hq with rfl | rfl | rfl <;> rfl
/-! rows -/
theorem rows_x {A : As} {σ : Mem} (hA : WA A) (hX : RX A σ) {n : Nat} (hn : n = 1 ∨ n = 2) {tr : Int64} (hs : ¬ lg_cmp tr 0 < 0) (ht : lg_cmp (tr >>> ((nI (dn (aY A))).toInt64 &&& 63)) 0 = 0) {q : Int32} (hq : -1 ≤ q.toInt ∧ q.toInt < n) : ∃ σ', FX8_rows σ (nI n) tr q = some (rowsA (4 * db (aY A)) n (rowL A (bit64 tr) n) q, σ') ∧ RX A σ' := by
  have h6 := hA.1.2.1
  have h36 := dn_le hA.1
  have h63 := sgn63 hs
  have hsh := shr_iff h63 (show dn (aY A) < 64 by omega)
  obtain ⟨σ', x1, x2, x3⟩ := cnt_x hA hX (n := n) (by omega) tr
  have hpw := pw24 (B := 4 * db (aY A)) (n := n) (by omega) (by omega)
  have hlen := wkc_len (aY A) (bit64 tr) n (aD A) (fun _ => false) 0
  change (rowL A (bit64 tr) n).length ≤ _ at hlen
  refine ⟨σ', ?_, x2⟩
  unfold FX8_rows
  rw [if_neg (show ¬ nI n < (1 : Int32) from nI_nlt (b := 1) (by omega) (by omega)), if_neg (show ¬ (3 : Int32) < nI n from nI_nlt (a := 3) (by omega) (by decide)), if_neg hs, cel_eq hX.1, bi_some, if_pos (hsh.mpr ht), if_neg (show ¬ q < -1 by rw [toInt_lt]; show ¬ q.toInt < -1; omega), if_pos (show q < nI n by rw [toInt_lt, nI_toInt (by omega)]; exact hq.2), x1, bi_some]
  unfold rowsA
  by_cases hqm : q = -1
  · rw [if_pos hqm, if_pos hqm]
  · rw [if_neg hqm, if_neg hqm]
    have hq0 : 0 ≤ q.toInt := by
      rcases (show q.toInt = -1 ∨ 0 ≤ q.toInt by omega) with w | w
      · exact absurd (Int32.toInt_inj.mp w) hqm
      · exact w
    obtain ⟨j, hj, rfl⟩ := blk (n := n) (a := q) ⟨hq0, hq.2⟩
    cases hL : rowL A (bit64 tr) n with
    | nil => rfl
    | cons z L' =>
      rw [hL] at hlen
      simp only [List.length_cons] at hlen
      rw [if_neg (show ¬ nI (z :: L').length = 0 from nI_ne0 (by simp) (by simp only [List.length_cons]; omega))]
      unfold FX2_pushAt
      rw [if_neg (nI_pos (by omega)), if_neg (show ¬ (3 : Int32) ≤ nI j from nI_ge (b := 3) (by omega) (by decide)), rd_in (by omega) (by decide), bi_some, x3 z (by rw [hL]; rfl) j hj, nI_toInt (by omega)]
      rfl
theorem rows_q {A : As} {σ : Mem} (hA : WA A) (hX : RX A σ) {n : Nat} (hn : n = 1 ∨ n = 2) {tr : Int64} (hs : ¬ lg_cmp tr 0 < 0) (ht : lg_cmp (tr >>> ((nI (dn (aY A))).toInt64 &&& 63)) 0 = 0) : FX8_rows σ (nI n) tr (nI n) = some (-1, σ) := by
  have h36 := dn_le hA.1
  have hsh := shr_iff (sgn63 hs) (show dn (aY A) < 64 by omega)
  unfold FX8_rows
  rw [if_neg (show ¬ nI n < (1 : Int32) from nI_nlt (b := 1) (by omega) (by omega)), if_neg (show ¬ (3 : Int32) < nI n from nI_nlt (a := 3) (by omega) (by decide)), if_neg hs, cel_eq hX.1, bi_some, if_pos (hsh.mpr ht), if_neg (show ¬ nI n < -1 by rw [toInt_lt, nI_toInt (by omega)]; show ¬ (n : Int) < -1; omega), if_neg (show ¬ nI n < nI n from nI_nlt (Nat.le_refl _) (by omega))]
theorem rows_m {σ : Mem} {n : Nat} (hn : n = 1 ∨ n = 2) (q : Int32) : FX8_rows σ (nI n) (-1) q = some (-2, σ) := by
  unfold FX8_rows
  rw [if_neg (show ¬ nI n < (1 : Int32) from nI_nlt (b := 1) (by omega) (by omega)), if_neg (show ¬ (3 : Int32) < nI n from nI_nlt (a := 3) (by omega) (by decide)), if_pos (by decide)]
theorem rows_4 {σ : Mem} (tr : Int64) (q : Int32) : FX8_rows σ 4 tr q = some (-2, σ) := by
  unfold FX8_rows
  rw [if_neg (by decide), if_pos (by decide)]
theorem rows_o {A : As} {σ : Mem} (hA : WA A) (hX : RX A σ) {n : Nat} (hn : n = 1 ∨ n = 2) {tr : Int64} (hs : ¬ lg_cmp tr 0 < 0) (ht : ¬ lg_cmp (tr >>> ((nI (dn (aY A))).toInt64 &&& 63)) 0 = 0) (q : Int32) : FX8_rows σ (nI n) tr q = some (-2, σ) := by
  have h36 := dn_le hA.1
  have hsh := shr_iff (sgn63 hs) (show dn (aY A) < 64 by omega)
  unfold FX8_rows
  rw [if_neg (show ¬ nI n < (1 : Int32) from nI_nlt (b := 1) (by omega) (by omega)), if_neg (show ¬ (3 : Int32) < nI n from nI_nlt (a := 3) (by omega) (by decide)), if_neg hs, cel_eq hX.1, bi_some, if_neg (fun w => ht (hsh.mp w))]

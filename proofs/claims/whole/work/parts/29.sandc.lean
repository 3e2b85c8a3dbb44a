/-! ===== sand: the call ===== -/
def sandN (A : As) (k g n : Nat) : Int32 := if (aD A).1 k < 36 then (if bh (aY A) T0 k g n (aD A) then 0 else fndI (finF (sandF (aY A) (aD A) k g n) 0 (dn (aY A)))) else -9
def sandC (A : As) (k g n : Nat) : Int32 := if (aD A).1 k < 36 then (if bh (aY A) T0 k g n (aD A) then -9 else oneI (finF (sandF (aY A) (aD A) k g n) 0 (dn (aY A)))) else -9
theorem fcx_eq {A : As} {σ : Mem} (hA : WA A) (hX : RX A σ) {k g n : Nat} (hk : k < db (aY A)) (hg : g < 2) (hn : n = 1 ∨ n = 2) : ∃ σ', FX3_fewestCells σ (σ.2 0 9) (nI k) (nI g) (nI n) = some (sandN A k g n, σ') ∧ RX A σ' ∧ (sandN A k g n = 1 → σ'.1 6 2 = sandC A k g n) := by
  have h6 := hA.1.2.1
  have h36 := dn_le hA.1
  obtain ⟨n', rfl⟩ : ∃ n', n = n' + 1 := ⟨n - 1, by omega⟩
  have hlt := wfd_lt hA.1 hA.2.1 hk
  unfold FX3_fewestCells
  rw [pof_eq hA.1 hA.2.1 hX.2.1 hk, bi_some]
  unfold sandN sandC
  by_cases e : (aD A).1 k < 36
  · rw [if_pos (show nI ((aD A).1 k) < (36 : Int32) from nI_lt (b := 36) e (by decide)), if_pos e, if_pos e]
    have hI : InX (aY A) T0 σ := ⟨hX.1, hX.2.2.2.2.2.1.2, x_T0 hX⟩
    obtain ⟨σ1, b1, b2, b3⟩ := bhx_eq hA.1 (t0_ok _) hk hg n' 14 (by omega) (by omega) (aD A) (σ.2 0 9) σ hA.2.1 hX.2.1 hI
    rw [show FTX3_bringsHome σ (σ.2 0 9) (nI k) (nI g) (nI (n' + 1)) = _ from b1, bi_some]
    have h51 : σ1.2 2 5 = 0 := w_ext fun i _ => by rw [b2.2.2 i, w_0]; rfl
    have hR1 : RX A σ1 := rx_fr hX (kpx_fr b3) b2.2.1 h51
    cases hbh : bh (aY A) T0 k g (n' + 1) (aD A)
    · rw [if_pos (show bI false = 0 from rfl), if_neg (show ¬ false = true by decide), if_neg (show ¬ false = true by decide)]
      obtain ⟨fr, f1, f2⟩ := fre_eq hA.1 hA.2.1 b2.1 hX.2.1
      rw [f1, bi_some]
      obtain ⟨σ2, r1, r2, r3, r4, r5, r6, r7⟩ := fcx_loop hA.1 hA.2.1 hX.2.1 hk hg (n := n') (by omega) f2 (dn (aY A)) 0 FU σ1 (Nat.zero_add _) (by show _ < 10000000; omega) b2.1 b2.2.1
      refine ⟨σ2, r1, rx_fr hR1 ⟨fun o ho => r5 o (by omega) (by omega) (by omega), fun o ho => r6 o (by omega)⟩ r3 r4, fun h => ?_⟩
      cases hf : finF (sandF (aY A) (aD A) k g (n' + 1)) 0 (dn (aY A)) with
      | none => rw [hf] at h; exact absurd h (by decide)
      | some c => exact r7 c hf
    · rw [if_neg (show ¬ bI true = 0 by decide), if_pos rfl, if_pos rfl]
      exact ⟨σ1, rfl, hR1, fun h => absurd h (by decide)⟩
  · rw [if_neg (show ¬ nI ((aD A).1 k) < (36 : Int32) from nI_nlt (b := 36) (by omega) (by omega)), if_neg e, if_neg e]
    exact ⟨σ, rfl, hX, fun h => absurd h (by decide)⟩
theorem sandN_v (A : As) (k g n : Nat) : sandN A k g n = -9 ∧ sandC A k g n = -9 ∨ sandN A k g n = 0 ∧ sandC A k g n = -9 ∨ sandN A k g n = 1 := by
  unfold sandN sandC
  by_cases e : (aD A).1 k < 36
  · rw [if_pos e, if_pos e]
    cases hbh : bh (aY A) T0 k g n (aD A)
    · rw [if_neg (show ¬ false = true by decide), if_neg (show ¬ false = true by decide)]
      cases hf : finF (sandF (aY A) (aD A) k g n) 0 (dn (aY A)) with
      | none => exact .inl ⟨rfl, rfl⟩
      | some c => exact .inr (.inr rfl)
    · exact .inr (.inl ⟨rfl, rfl⟩)
  · rw [if_neg e, if_neg e]; exact .inl ⟨rfl, rfl⟩
/-- what the call answers: q is -1, 0, 1 -/
def sandA (A : As) (k g n : Nat) (q : Int32) : Int32 := if q = -1 then sandN A k g n else if q = 0 then sandC A k g n else -9
theorem sam_rm {A : As} {τ τ' : Mem} (hM : RM A τ) (h : SaM (aY A) (aD A) τ τ') : RM A τ' := rm_same hM h.1.2.2 h.2.2.2 h.2.2.1
theorem sam_m {A : As} {τ : Mem} (hA : WA A) (hM : RM A τ) {k g n : Nat} (hk : k < db (aY A)) (hg : g < 2) (hn : n = 1 ∨ n = 2) {q : Int32} (hq : q = -1 ∨ q = 0 ∨ q = 1) : ∃ τ', FX9_sand τ (nI k) (nI g) (nI n) q = some (sandA A k g n q, τ') ∧ RM A τ' := by
  have h6 := hA.1.2.1
  have h36 := dn_le hA.1
  have hlt := wfd_lt hA.1 hA.2.1 hk
  have hq1 : (-1 : Int) ≤ q.toInt ∧ q.toInt ≤ 1 := by rcases hq with rfl | rfl | rfl <;> decide
  have e258 : ∀ τ' (a b : Int32), FX9_sand_258 τ' q a b (-9) = some (if q = -1 then a else if q = 0 then b else -9, τ') := by
    intro τ' a b
    unfold FX9_sand_258
    rcases hq with rfl | rfl | rfl
    · rfl
    · rfl
    · rfl
  unfold FX9_sand
  rw [nob_eq hM.1.2.2.1 h6, if_pos (by rw [nI_toInt (by omega)]; omega), bi_some, if_pos rfl, in_eq, i64_toInt, nI_toInt (show g < 2 ^ 31 by omega), show (0 : Int64).toInt = 0 from rfl, show (1 : Int64).toInt = 1 from rfl, if_pos (by omega), bi_some, if_neg (show ¬ (1 : Int32) = 0 by decide), in_eq, i64_toInt, show (-1 : Int64).toInt = -1 from rfl, show (1 : Int64).toInt = 1 from rfl, if_pos hq1, bi_some, if_neg (show ¬ (1 : Int32) = 0 by decide), in_eq, i64_toInt, nI_toInt (show n < 2 ^ 31 by omega), show (1 : Int64).toInt = 1 from rfl, show (2 : Int64).toInt = 2 from rfl, if_pos (by omega), bi_some, if_neg (show ¬ (1 : Int32) = 0 by decide), rd_in (by omega) (by decide), rm_l hM h6 k hk]
  unfold sandA sandN sandC
  by_cases e : (aD A).1 k < 36
  · rw [if_pos ((lie_neg hlt).2.mpr e), if_pos e, if_pos e, show (0 : Int32) = nI 0 from rfl, hold_eq τ (by decide), bv_some]
    have hI : InM (aY A) T0 τ (heldM τ 0) := ⟨frm_ms (held_fr τ 0) hM.1, m_T0 hM, held_fr τ 0⟩
    obtain ⟨τ1, r1, r2, r3, r4⟩ := cmh_eq hA.1 (t0_ok _) hA.2.1 hk e hg hn hI (held_ok hM.2.1)
    have h17 : τ1.2 0 17 = 0 := w_ext fun i _ => by rw [r2.2.1 i, w_0]; rfl
    have hS : SaM (aY A) (aD A) τ τ1 := ⟨r2, r3, r4, h17⟩
    rw [r1, bi_some]
    cases hbh : bh (aY A) T0 k g n (aD A)
    · rw [if_pos (show bI false = nI 0 from rfl), if_neg (show ¬ false = true by decide), if_neg (show ¬ false = true by decide)]
      obtain ⟨τ2, s1, s2⟩ := sm_93 hA.1 hA.2.1 hk e hg hn hbh q (dn (aY A)) 0 FU τ1 (Nat.zero_add _) (by show _ < 10000000; omega) (fun c hc => absurd hc (Nat.not_lt_zero _)) hS
      rw [s1, e258]
      exact ⟨τ2, rfl, sam_rm hM s2⟩
    · rw [if_neg (show ¬ bI true = nI 0 by decide), if_pos rfl, if_pos rfl]
      refine ⟨τ1, ?_, sam_rm hM hS⟩
      have : FX9_sand_93 FU τ1 (nI k) (nI g) (nI n) q (nI 0) (-9) (-9) (nI 0) = FX9_sand_155 FU τ1 (nI k) (nI g) (nI n) q (nI 0) (-9) (-9) 0 := by
        show BX9_sand_93 (FX9_sand_93 9999999) τ1 _ _ _ q (nI 0) (-9) (-9) (nI 0) = _
        unfold BX9_sand_93
        rw [cem_eq hS.1.1, bi_some]
        by_cases z : nI (dn (aY A)) ≤ nI 0
        · rw [if_pos z]
        · rw [if_neg z, if_pos (show (0 : Int32) ≤ nI 0 by decide)]
      rw [this, sm_end hS _ _ _ _ _ _ (by decide), e258]
      rfl
  · rw [if_neg (fun z => e ((lie_neg hlt).2.mp z)), if_neg e, if_neg e]
    refine ⟨τ, ?_, hM⟩
    rcases hq with rfl | rfl | rfl <;> rfl
theorem sim_sand : Sim_sand RelW := by
  intro σ τ a g n q h
  obtain ⟨A, hA, hX, hM⟩ := id h
  have h6 := hA.1.2.1
  have gate : ∀ σ : Mem, FX8_isGate σ g = some (if 0 ≤ g.toInt ∧ g.toInt ≤ 1 then 1 else 0, σ) := by
    intro σ
    unfold FX8_isGate
    by_cases h0 : g = 0
    · subst h0; rfl
    · rw [if_neg h0]
      by_cases h1 : g = 1
      · subst h1; rfl
      · rw [if_neg h1, if_neg (fun z => by
          obtain ⟨j, hj, rfl⟩ := blk2 (n := 1) (a := g) z
          rcases (show j = 0 ∨ j = 1 by omega) with rfl | rfl
          · exact h0 rfl
          · exact h1 rfl)]
        rfl
  have qv : (-1 ≤ q.toInt ∧ q.toInt ≤ 1) → q = -1 ∨ q = 0 ∨ q = 1 := by
    intro z
    rcases (show q.toInt = -1 ∨ q.toInt = 0 ∨ q.toInt = 1 by omega) with w | w | w
    · exact .inl (Int32.toInt_inj.mp w)
    · exact .inr (.inl (Int32.toInt_inj.mp w))
    · exact .inr (.inr (Int32.toInt_inj.mp w))
  by_cases hk : 0 ≤ a.toInt ∧ a.toInt < db (aY A)
  · by_cases hg : 0 ≤ g.toInt ∧ g.toInt ≤ 1
    · by_cases hq : -1 ≤ q.toInt ∧ q.toInt ≤ 1
      · by_cases hn : 1 ≤ n.toInt ∧ n.toInt ≤ 2
        · obtain ⟨k, hkb, rfl⟩ := blk hk
          obtain ⟨g', hg', rfl⟩ := blk2 (n := 1) hg
          obtain ⟨n', hn', rfl⟩ := blk2 (n := 2) (a := n) (by omega)
          have hn2 : n' = 1 ∨ n' = 2 := by rw [nI_toInt (by omega)] at hn; omega
          have hq2 := qv hq
          obtain ⟨τ', m1, m2⟩ := sam_m hA hM hkb (show g' < 2 by omega) hn2 hq2
          obtain ⟨σ', x1, x2, x3⟩ := fcx_eq hA hX hkb (show g' < 2 by omega) hn2
          refine ⟨_, σ', τ', ?_, m1, A, hA, x2, m2⟩
          unfold FX8_sand
          rw [hab_eq hX.1.2.2.1 h6, if_pos hk, bi_some, if_neg (show ¬ (1 : Int32) = 0 by decide), gate, if_pos hg, bi_some, if_neg (show ¬ (1 : Int32) = 0 by decide), if_neg (by rcases hq2 with rfl | rfl | rfl <;> decide), if_pos (by rcases hq2 with rfl | rfl | rfl <;> decide), if_neg (show ¬ nI n' < (1 : Int32) from nI_nlt (b := 1) (by omega) (by omega)), if_pos (show nI n' ≤ (2 : Int32) from nI_le (b := 2) hn' (by decide)), x1, bi_some]
          unfold sandA
          rcases sandN_v A k g' n' with ⟨v1, v2⟩ | ⟨v1, v2⟩ | v1
          · rw [v1, v2, if_pos (by decide)]
            rcases hq2 with rfl | rfl | rfl <;> rfl
          · rw [v1, v2, if_neg (by decide)]
            rcases hq2 with rfl | rfl | rfl <;> rfl
          · rw [x3 v1, v1, if_neg (by decide)]
            rcases hq2 with rfl | rfl | rfl <;> rfl
        · refine ⟨-2, σ, τ, ?_, ?_, h⟩
          · unfold FX8_sand
            have hq2 := qv hq
            rw [hab_eq hX.1.2.2.1 h6, if_pos hk, bi_some, if_neg (show ¬ (1 : Int32) = 0 by decide), gate, if_pos hg, bi_some, if_neg (show ¬ (1 : Int32) = 0 by decide), if_neg (by rcases hq2 with rfl | rfl | rfl <;> decide), if_pos (by rcases hq2 with rfl | rfl | rfl <;> decide)]
            by_cases h1 : n < 1
            · rw [if_pos h1]
            · rw [if_neg h1, if_neg (by rw [toInt_lt] at h1; rw [toInt_le]; change ¬ n.toInt < 1 at h1; show ¬ n.toInt ≤ 2; omega)]
          · unfold FX9_sand
            rw [nob_eq hM.1.2.2.1 h6, if_pos hk, bi_some, if_pos rfl, in_eq, i64_toInt, show (0 : Int64).toInt = 0 from rfl, show (1 : Int64).toInt = 1 from rfl, if_pos hg, bi_some, if_neg (show ¬ (1 : Int32) = 0 by decide), in_eq, i64_toInt, show (-1 : Int64).toInt = -1 from rfl, show (1 : Int64).toInt = 1 from rfl, if_pos hq, bi_some, if_neg (show ¬ (1 : Int32) = 0 by decide), in_eq, i64_toInt, show (1 : Int64).toInt = 1 from rfl, show (2 : Int64).toInt = 2 from rfl, if_neg hn, bi_some, if_pos rfl]
      · refine ⟨-1, σ, τ, ?_, ?_, h⟩
        · unfold FX8_sand
          rw [hab_eq hX.1.2.2.1 h6, if_pos hk, bi_some, if_neg (show ¬ (1 : Int32) = 0 by decide), gate, if_pos hg, bi_some, if_neg (show ¬ (1 : Int32) = 0 by decide)]
          by_cases h1 : q < -1
          · rw [if_pos h1]
          · rw [if_neg h1, if_neg (by rw [toInt_lt] at h1; rw [toInt_le]; change ¬ q.toInt < -1 at h1; show ¬ q.toInt ≤ 1; omega)]
        · unfold FX9_sand
          rw [nob_eq hM.1.2.2.1 h6, if_pos hk, bi_some, if_pos rfl, in_eq, i64_toInt, show (0 : Int64).toInt = 0 from rfl, show (1 : Int64).toInt = 1 from rfl, if_pos hg, bi_some, if_neg (show ¬ (1 : Int32) = 0 by decide), in_eq, i64_toInt, show (-1 : Int64).toInt = -1 from rfl, show (1 : Int64).toInt = 1 from rfl, if_neg hq, bi_some, if_pos rfl]
    · refine ⟨-1, σ, τ, ?_, ?_, h⟩
      · unfold FX8_sand
        rw [hab_eq hX.1.2.2.1 h6, if_pos hk, bi_some, if_neg (show ¬ (1 : Int32) = 0 by decide), gate, if_neg hg, bi_some, if_pos rfl]
      · unfold FX9_sand
        rw [nob_eq hM.1.2.2.1 h6, if_pos hk, bi_some, if_pos rfl, in_eq, i64_toInt, show (0 : Int64).toInt = 0 from rfl, show (1 : Int64).toInt = 1 from rfl, if_neg hg, bi_some, if_pos rfl]
  · refine ⟨-1, σ, τ, ?_, ?_, h⟩
    · unfold FX8_sand
      rw [hab_eq hX.1.2.2.1 h6, if_neg hk, bi_some, if_pos rfl]
    · unfold FX9_sand
      rw [nob_eq hM.1.2.2.1 h6, if_neg hk, bi_some, if_neg (show ¬ (1 : Int32) = 0 by decide)]

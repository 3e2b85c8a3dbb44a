/-! ===== yard; the start ===== -/
theorem rm_R {A : As} {τ τ' : Mem} (h : RM A τ) (hF : FrR τ τ') : RM A τ' := by
  have s : ∀ q, q ≠ 9 → q ≠ 10 → q ≠ 11 → q ≠ 15 → q ≠ 16 → τ'.1 0 q = τ.1 0 q := hF.2.1
  have o : ∀ o, o ≠ 0 → o ≠ 5 → o ≠ 6 → o ≠ 7 → τ'.1 o = τ.1 o := hF.1
  refine ⟨?_, ?_, ?_, ?_, fun k hk => ?_, ?_, ?_, ?_⟩
  · show MS' (aY A) τ'
    unfold MS'
    rw [o 1 (by decide) (by decide) (by decide) (by decide), o 2 (by decide) (by decide) (by decide) (by decide), o 3 (by decide) (by decide) (by decide) (by decide), s 1 (by decide) (by decide) (by decide) (by decide) (by decide), s 2 (by decide) (by decide) (by decide) (by decide) (by decide), s 3 (by decide) (by decide) (by decide) (by decide) (by decide)]
    exact h.1
  · show EncM (aY A) (aD A) (τ'.1 4) (τ'.2 0 8)
    rw [o 4 (by decide) (by decide) (by decide) (by decide), hF.2.2]; exact h.2.1
  · show MH (aY A) (aN A) (aH A) τ'
    unfold MH
    rw [s 22 (by decide) (by decide) (by decide) (by decide) (by decide), o 10 (by decide) (by decide) (by decide) (by decide), hF.2.2]; exact h.2.2.1
  · show MI' (aY A) (aI A) τ'
    unfold MI'
    rw [o 12 (by decide) (by decide) (by decide) (by decide), o 13 (by decide) (by decide) (by decide) (by decide), hF.2.2]; exact h.2.2.2.1
  · have hold := h.2.2.2.2.1 k hk
    unfold shM at hold ⊢
    rw [o 28 (by decide) (by decide) (by decide) (by decide), o 29 (by decide) (by decide) (by decide) (by decide), o 30 (by decide) (by decide) (by decide) (by decide)]
    exact hold
  · rw [hF.2.2]; exact h.2.2.2.2.2.1
  · rw [s 51 (by decide) (by decide) (by decide) (by decide) (by decide)]; exact h.2.2.2.2.2.2.1
  · rw [s 0 (by decide) (by decide) (by decide) (by decide) (by decide)]; exact h.2.2.2.2.2.2.2
theorem wa_Y {A : As} (h : WA A) {Y : Yd} (hY : WFY Y) : WA (wY A Y) :=
  ⟨hY, fun k hk => Or.inl (hY.2.2.2.2 k hk).2, Nat.zero_le _, fun q hq => absurd hq (Nat.not_lt_zero q), fun i D _ hD => (by cases hD), h.2.2.2.2.2⟩
theorem y50 (σ : Mem) (i n : Int32) (o : Nat) {x : Int32} (hx : ¬ x = 0) : FX8_yard_50 σ i n o x = some (-10 - x, setI σ 0 12 x) := by
  unfold FX8_yard_50 FX8_yard_69
  rw [if_neg hx, if_neg hx, fy_eq, bi_some]
theorem sim_yard : Sim_yard RelW := by
  intro σ τ a l i n h
  obtain ⟨A, hA, hX, hM⟩ := id h
  have hX0 := rx_F hX 0
  have hM0 := rm_F hM 0
  have hRef : RelW (setI σ 0 12 0) (setI τ 0 0 0) := ⟨_, wa_F hA 0, hX0, hM0⟩
  by_cases hk : 0 ≤ a.toInt ∧ a.toInt < 4
  · obtain ⟨k, hk4, rfl⟩ := blk (n := 4) hk
    have hx := xc_at hX0.2.2.2.2.1 hk4
    have hm := hM.2.2.2.2.1 k hk4
    change shX (7 + k) (11 + k) (aS A k) _ at hx
    by_cases hl : 0 ≤ l.toInt ∧ l.toInt ≤ 2
    · obtain ⟨l', hl', rfl⟩ := blk2 (n := 2) hl
      cases hs : aS A k with
      | none =>
        rw [hs] at hx hm
        refine ⟨-11, setI σ 0 12 1, setI τ 0 0 1, ?_, ?_, _, wa_F hA 1, rx_F hX 1, rm_F hM 1⟩
        · unfold FX8_yard
          rw [nm_eq, sat_in _ hk4, bi_some, sh_some (by omega), ila_eq, if_pos hl, bi_some, if_neg (show ¬ (1 : Int32) = 0 by decide)]
          unfold FX5_faultTakenAs
          rw [hno_none hx.1, bi_some, if_neg (show ¬ (1 : Int32) = 0 by decide), bi_some, if_neg (show ¬ (1 : Int32) = 0 by decide), y50 _ _ _ _ (show ¬ (1 : Int32) = 0 by decide), set2]; rfl
        · unfold FX9_yard
          rw [nsh_eq, if_pos hk, bi_some, if_pos rfl, in02, if_pos hl, bi_some, if_neg (show ¬ (1 : Int32) = 0 by decide), rd_in hk4 (by decide), show τ.1 28 k = -1 from hm, if_pos m1_lt]
          unfold FX9_yard_57
          rw [rd_in hk4 (by decide), show τ.1 28 k = -1 from hm, if_neg nle_m1, fd_eq, bi_some]; rfl
      | some s =>
        rw [hs] at hx hm
        have hw := hA.2.2.2.2.2 k s hk4 hs
        have hmz : ¬ τ.1 28 k < 0 := by rw [hm.1]; exact nI_pos (by omega)
        by_cases hc : s.1 = l'
        · have hxx : FX8_yard σ (nI k) (nI l') i n = if 0 ≤ n then FX8_yard_50 (setI σ 0 12 0) i n (7 + k) 0 else FX8_yard_50 (setI σ 0 12 0) i n (7 + k) 4 := by
            unfold FX8_yard
            rw [nm_eq, sat_in _ hk4, bi_some, sh_some (by omega), ila_eq, if_pos hl, bi_some, if_neg (show ¬ (1 : Int32) = 0 by decide)]
            unfold FX5_faultTakenAs
            rw [hno_some hx.1 hw.1, bi_some, if_pos rfl, hx.1, hc, if_pos rfl, bi_some, if_pos rfl]
          have hmm : FX9_yard τ (nI k) (nI l') i n = FX9_yard_57 τ (nI k) i n := by
            unfold FX9_yard
            rw [nsh_eq, if_pos hk, bi_some, if_pos rfl, in02, if_pos hl, bi_some, if_neg (show ¬ (1 : Int32) = 0 by decide), rd_in hk4 (by decide), if_neg hmz, rd_in hk4 (by decide), hm.2.1, hc, if_pos rfl]
          rw [hxx, hmm]
          unfold FX9_yard_57
          rw [rd_in hk4 (by decide), hm.1, if_pos (nI_pos' (by omega))]
          by_cases hn0 : 0 ≤ n
          · rw [if_pos hn0, if_pos hn0, rd_in hk4 (by decide), hm.1]
            unfold FX8_yard_50
            rw [if_pos rfl]
            rcases bey_d s.2.1 i n with hb | hb
            · obtain ⟨b1, b2, b3⟩ := id hb
              obtain ⟨i', hi', rfl⟩ := blk2 (n := s.2.1) (a := i) (by omega)
              obtain ⟨n', hn', rfl⟩ := blk2 (n := s.2.1) (a := n) (by omega)
              rw [nI_toInt (by omega), nI_toInt (by omega)] at b3
              rw [hcs_t hx.2.1 hw.2 hb, bi_some, if_neg (show ¬ (1 : Int32) = 0 by decide), bey_t hw.2 τ hb, bi_some, if_pos rfl, n60]
              have hSF : SF (7 + k) i' n' s.2.1 (fun p => s.2.2 (i' + p)) (setI σ 0 12 0) := by
                refine ⟨hx.2.1, fun p hp => ?_⟩
                rw [show 7 + k + 4 = 11 + k by omega]
                exact hx.2.2 (i' + p) (by omega)
              have hcd : ∀ p, p < n' → τ.1 30 (60 * k + i' + p) = (fun p => s.2.2 (i' + p)) p := fun p hp => by
                rw [show 60 * k + i' + p = 60 * k + (i' + p) by omega]
                exact hm.2.2 (i' + p) (by omega)
              unfold FX8_yard_69
              rw [if_pos rfl]
              rcases rd_all (o := 7 + k) (σ := setI σ 0 12 0) (i := i') (n := n') (a := 60 * k + i') (rdx_of hSF hw.2 (by omega)) (by omega) (by omega) (τ := τ) hcd with ⟨q, τ', q1, q2, q3, q4, q5⟩ | ⟨h', w', τ', q1, q2, q3, q4, q5, q6, q7, q8, q9, q10, q11, q12, q13⟩
              · rw [q2, q3, bi_some, bi_some, if_neg (nI_pos (by omega)), if_pos rfl, q4, rf_eq, bi_some]
                exact ⟨_, _, _, rfl, rfl, _, wa_F hA 0, hX0, rm_F (rm_R hM q5) 0⟩
              · rw [q5, q6, bi_some, bi_some, if_pos (show (-1 : Int32) < 0 by decide), if_neg (show ¬ (1 : Int32) = 0 by decide)]
                obtain ⟨σ', x1, x2⟩ := take_x (A := A) (o := 7 + k) (by omega) hw.2 (by omega) q1 q2 q3 q4 q9 q10 q11 q12 q13 hSF hX0
                obtain ⟨τ2, m1, m2⟩ := take_m q1 q2 q3 q4 q10 q11 hM q7 q8
                rw [x1, bv_some, m1]
                refine ⟨_, _, _, rfl, ?_, _, wa_Y hA (yq_wf q1 q2 q3 q4 q10 q11), x2, m2⟩
                rw [x2.1.2.2.1]; rfl
            · rw [hcs_f hx.2.1 hw.2 hb, bi_some, if_pos rfl, bey_f hw.2 τ hb, bi_some, if_neg (show ¬ (1 : Int32) = 0 by decide), fd_eq, bi_some]
              unfold FX8_yard_69
              rw [if_neg (show ¬ (3 : Int32) = 0 by decide), fy_eq, bi_some, set2]
              exact ⟨_, _, _, rfl, rfl, _, wa_F hA 3, rx_F hX 3, rm_F hM 3⟩
          · rw [if_neg hn0, if_neg hn0, y50 _ _ _ _ (show ¬ (4 : Int32) = 0 by decide), set2, fd_eq, bi_some]
            exact ⟨_, _, _, rfl, rfl, _, wa_F hA 4, rx_F hX 4, rm_F hM 4⟩
        · have hc2 : ¬ nI s.1 = nI l' := fun e => hc ((nI_eq (by omega) (by omega)).mp e)
          refine ⟨-12, setI σ 0 12 2, setI τ 0 0 2, ?_, ?_, _, wa_F hA 2, rx_F hX 2, rm_F hM 2⟩
          · unfold FX8_yard
            rw [nm_eq, sat_in _ hk4, bi_some, sh_some (by omega), ila_eq, if_pos hl, bi_some, if_neg (show ¬ (1 : Int32) = 0 by decide)]
            unfold FX5_faultTakenAs
            rw [hno_some hx.1 hw.1, bi_some, if_pos rfl, hx.1, if_neg hc2, bi_some, if_neg (show ¬ (2 : Int32) = 0 by decide), y50 _ _ _ _ (show ¬ (2 : Int32) = 0 by decide), set2]; rfl
          · unfold FX9_yard
            rw [nsh_eq, if_pos hk, bi_some, if_pos rfl, in02, if_pos hl, bi_some, if_neg (show ¬ (1 : Int32) = 0 by decide), rd_in hk4 (by decide), if_neg hmz, rd_in hk4 (by decide), hm.2.1, if_neg hc2, fd_eq, bi_some]; rfl
    · refine ⟨-2, setI σ 0 12 0, setI τ 0 0 0, ?_, ?_, hRef⟩
      · unfold FX8_yard
        rw [nm_eq, sat_in _ hk4, bi_some, sh_some (by omega), ila_eq, if_neg hl, bi_some, if_pos rfl]
      · unfold FX9_yard
        rw [nsh_eq, if_pos hk, bi_some, if_pos rfl, in02, if_neg hl, bi_some, if_pos rfl, rf_eq, bi_some]
  · refine ⟨-1, setI σ 0 12 0, setI τ 0 0 0, ?_, ?_, hRef⟩
    · unfold FX8_yard
      rw [nm_eq, sat_out _ hk, bi_some, sh_none]
    · unfold FX9_yard
      rw [nsh_eq, if_neg hk, bi_some, if_neg (show ¬ (1 : Int32) = 0 by decide), rf_eq, bi_some]
/-! the start -/
def Y00 : Yd := (0, 0, 0, fun _ => 0, fun _ => 0, fun _ => 0)
def D00 : Dy := (fun _ => 0, fun _ => false)
def A00 : As := (Y00, D00, 0, fun _ => D00, fun _ => none, fun _ => none, 0, 0)
theorem rel_0 : RelW σX0 τM0 := by
  have bz : ∀ (f : Nat → Nat) (v i : Nat), bit64 0 i = (decide (i < dn Y00) && f i == v) := fun f v i => by rw [w_0, decide_eq_false (show ¬ i < dn Y00 from Nat.not_lt_zero i), Bool.false_and]
  have e0 : EncX Y00 D00 0 := ⟨fun k hk => absurd hk (Nat.not_lt_zero k), fun j hj => absurd hj (Nat.not_lt_zero j), fun i _ _ => w_0 i, fun i _ => w_0 i⟩
  refine ⟨A00, ⟨⟨Or.inl ⟨rfl, rfl, rfl⟩, Nat.zero_le _, fun c hc => absurd hc (Nat.not_lt_zero c), Nat.zero_le _, fun k hk => absurd hk (Nat.not_lt_zero k)⟩, fun k hk => absurd hk (Nat.not_lt_zero k), Nat.zero_le _, fun q hq => absurd hq (Nat.not_lt_zero q), fun i D _ hD => (by cases hD), fun k s _ hs => (by cases hs)⟩, ⟨?_, ?_, ?_, ?_, ?_, ?_, ?_, ?_⟩, ⟨?_, ?_, ?_, ?_, ?_, ?_, ?_, ?_⟩⟩
  · exact ⟨rfl, rfl, rfl, rfl, fun j hj => absurd hj (Nat.not_lt_zero j), bz _ 1, bz _ 2, bz _ 4, bz _ 5, bz _ 0, fun k hk => absurd hk (Nat.not_lt_zero k), fun k hk => absurd hk (Nat.not_lt_zero k), fun c d hc => absurd hc (Nat.not_lt_zero c)⟩
  · exact e0
  · exact ⟨rfl, fun q hq => absurd hq (Nat.not_lt_zero q)⟩
  · intro i hi
    show σX0.2 17 i = -1
    rcases (show i = 0 ∨ i = 1 ∨ i = 2 by omega) with rfl | rfl | rfl <;> rfl
  · exact ⟨⟨rfl, rfl⟩, ⟨rfl, rfl⟩, ⟨rfl, rfl⟩, ⟨rfl, rfl⟩⟩
  · exact ⟨rfl, Or.inl rfl⟩
  · rfl
  · rfl
  · exact ⟨rfl, rfl, rfl, fun c hc => absurd hc (Nat.not_lt_zero c), fun k hk => absurd hk (Nat.not_lt_zero k), fun k hk => absurd hk (Nat.not_lt_zero k)⟩
  · refine ⟨fun k _ => rfl, fun i => ?_⟩
    show bit64 0 i = filM Y00 D00 i
    rw [w_0]
    unfold filM
    rw [decide_eq_false (show ¬ i < dn Y00 from Nat.not_lt_zero i)]; rfl
  · exact ⟨rfl, fun q hq => absurd hq (Nat.not_lt_zero q)⟩
  · intro i hi
    show τM0.1 12 i = 0
    rfl
  · intro k hk
    show τM0.1 28 k = -1
    rcases (show k = 0 ∨ k = 1 ∨ k = 2 ∨ k = 3 by omega) with rfl | rfl | rfl | rfl <;> rfl
  · rfl
  · rfl
  · rfl

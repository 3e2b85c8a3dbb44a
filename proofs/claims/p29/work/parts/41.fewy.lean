/-! ===== fewest: the class's call; the reference's codes ===== -/
def S0 (D : Dy) : BS := (0, fun _ => (D, 0, 0))
def S1 (D : Dy) : BS := (1, fun j => if j = 0 then (D, 0, 0) else (D, 0, 0))
theorem add_0 (Y : Yd) (D : Dy) : addS Y (S0 D) D 0 0 = some (S1 D) := by
  unfold addS
  rw [if_neg (fun h => by
    obtain ⟨i, hi, _⟩ := h
    exact absurd hi (Nat.not_lt_zero i))]
  rfl
theorem wfs_1 {Y : Yd} {D : Dy} (hD : WFD Y D) : WfS Y (S1 D) := by
  refine ⟨by show 1 ≤ 1500; omega, fun i hi => ?_⟩
  have hi : i < 1 := hi
  have : i = 0 := by omega
  subst this
  exact ⟨hD, fun h => absurd h (Nat.lt_irrefl 0)⟩
theorem fpx_loop {Y : Yd} (hY : WFY Y) {g : Nat} (hg2 : g < 2) : ∀ (m i fuel : Nat) (S : BS) (σ : Mem), i + m = 1501 → m < fuel → WfS Y S → BfX Y S σ → InX Y T0 σ → ∃ (v : Int32) (σ' : Mem), FX4_fewestPushes_29 fuel σ (nI g) (nI i) = some (v, σ') ∧ InX Y T0 σ' ∧ KpB σ σ' ∧ WfS Y (bfs Y g m i S).2.1 ∧ ((bfs Y g m i S).1 = 0 ∧ v = -9 ∨ (bfs Y g m i S).1 = 1 ∧ (bfs Y g m i S).2.2.1 < (bfs Y g m i S).2.1.1 ∧ FoX (bfs Y g m i S).2.1 (bfs Y g m i S).2.2.1 (bfs Y g m i S).2.2.2 v σ' ∨ (bfs Y g m i S).1 = 2 ∧ v = -5) := by
  have h6 := hY.2.1
  intro m
  induction m with
  | zero =>
    intro i fuel S σ hi hf hS hB hI
    obtain ⟨f, rfl⟩ : ∃ f, fuel = f + 1 := ⟨fuel - 1, by omega⟩
    have hn := hS.1
    refine ⟨-9, σ, ?_, hI, kpb_rfl σ, hS, .inl ⟨rfl, rfl⟩⟩
    show BX4_fewestPushes_29 (FX4_fewestPushes_29 f) σ _ (nI i) = _
    unfold BX4_fewestPushes_29
    rw [hB.1, if_pos (nI_le (by omega) (by omega))]
  | succ m ih =>
    intro i fuel S σ hi hf hS hB hI
    obtain ⟨f, rfl⟩ : ∃ f, fuel = f + 1 := ⟨fuel - 1, by omega⟩
    have hn := hS.1
    have un : FX4_fewestPushes_29 (f + 1) σ (nI g) (nI i) = BX4_fewestPushes_29 (FX4_fewestPushes_29 f) σ (nI g) (nI i) := rfl
    rw [un]
    unfold BX4_fewestPushes_29 bfs
    rw [hB.1]
    by_cases h0 : S.1 ≤ i
    · rw [if_pos (nI_le h0 (by omega)), if_pos h0]
      exact ⟨-9, σ, rfl, hI, kpb_rfl σ, hS, .inl ⟨rfl, rfl⟩⟩
    · rw [if_neg (nI_ge (by omega) (by omega)), if_neg h0, if_neg (show ¬ (1500 : Int32) ≤ nI i from nI_ge (b := 1500) (by omega) (by decide))]
      have hgo : ∃ (v : Int32) (σ' : Mem), FX4_goOnFrom σ (nI i) (nI g) = some (v, σ') ∧ InX Y T0 σ' ∧ KpB σ σ' ∧ WfS Y (spr Y g i 0 (4 * db Y) S).2.1 ∧ S.1 ≤ (spr Y g i 0 (4 * db Y) S).2.1.1 ∧ ((spr Y g i 0 (4 * db Y) S).1 = 0 ∧ v = 0 ∧ BfX Y (spr Y g i 0 (4 * db Y) S).2.1 σ' ∨ (spr Y g i 0 (4 * db Y) S).1 = 1 ∧ FoX (spr Y g i 0 (4 * db Y) S).2.1 i (spr Y g i 0 (4 * db Y) S).2.2 v σ' ∨ (spr Y g i 0 (4 * db Y) S).1 = 2 ∧ v = -5) := by
        unfold FX4_goOnFrom
        rw [if_neg (nI_pos (by omega)), if_pos (show nI i < (1500 : Int32) from nI_lt (b := 1500) (by omega) (by decide)), rd_in (by omega) (by decide), nm_eq]
        show ∃ (v : Int32) (σ' : Mem), BX4_goOnFrom_23 (FX4_goOnFrom_23 9999999) σ (nI i) (nI g) (σ.2 23 i) (nI 0) = some (v, σ') ∧ _
        unfold BX4_goOnFrom_23
        rw [hI.1.2.2.1]
        by_cases hb : db Y = 0
        · rw [hb, if_pos (show nI 0 ≤ nI 0 by decide)]
          exact ⟨0, σ, rfl, hI, kpb_rfl σ, hS, Nat.le_refl _, .inl ⟨rfl, rfl, hB⟩⟩
        · rw [if_neg (nI_ge (by omega) (by omega))]
          exact go_x hY hg2 (hS.2 i (by omega)).1 (hB.2.1 i (by omega)) (4 * db Y) 0 0 9999999 FU S σ (by omega) (by omega) (by omega) (by omega) (by show 4 < 0 + 10000000; omega) hS (by omega) rfl hB hI
      obtain ⟨v, σ1, r1, r2, r3, r4, r5, r6⟩ := hgo
      rw [r1, bi_some]
      rcases r6 with ⟨c1, c2, c3⟩ | ⟨c1, c2⟩ | ⟨c1, c2⟩
      · rw [if_pos c2, nm_eq, nI_1, if_pos c1]
        obtain ⟨v', σ', q1, q2, q3, q4, q5⟩ := ih (i + 1) f _ σ1 (by omega) (by omega) r4 c3 r2
        exact ⟨v', σ', q1, q2, kpb_trans r3 q3, q4, q5⟩
      · have hl := revP_len (spr Y g i 0 (4 * db Y) S).2.1.2 1500 i (spr Y g i 0 (4 * db Y) S).2.2
        have hne : ¬ v = 0 := by
          rw [c2.1]
          unfold rowR
          exact nI_ne0 (by omega) (by omega)
        rw [if_neg hne, if_neg (by rw [c1]; decide)]
        exact ⟨v, σ1, rfl, r2, r3, r4, .inr (.inl ⟨c1, Nat.lt_of_lt_of_le (show i < S.1 by omega) r5, c2⟩)⟩
      · rw [if_neg (by rw [c2]; decide), if_neg (by rw [c1]; decide)]
        exact ⟨v, σ1, rfl, r2, r3, r4, .inr (.inr ⟨c1, c2⟩)⟩
/-- what the search of the yard as it is comes to -/
noncomputable def fewR (A : As) (g : Nat) : Nat × BS × Nat × Nat := bfs (aY A) g 1501 0 (S1 (aD A))
noncomputable def fewA (A : As) (g : Nat) (q : Int32) : Int32 := if (fewR A g).1 = 0 then -9 else if (fewR A g).1 = 1 then (if q = -1 then nI (rowR (fewR A g).2.1 (fewR A g).2.2.1 (fewR A g).2.2.2).length else if q < nI (rowR (fewR A g).2.1 (fewR A g).2.2.1 (fewR A g).2.2.2).length then nI (num ((rowR (fewR A g).2.1 (fewR A g).2.2.1 (fewR A g).2.2.2).getD ((rowR (fewR A g).2.1 (fewR A g).2.2.1 (fewR A g).2.2.2).length - 1 - q.toInt.toNat) 0)) else -9) else -5
theorem fpx_eq {A : As} {σ : Mem} (hA : WA A) (hX : RX A σ) {g : Nat} (hg2 : g < 2) {q : Int32} (hq : -1 ≤ q.toInt) : ∃ σ', FX8_fewest σ (nI g) q = some (fewA A g q, σ') ∧ RX A σ' ∧ WfS (aY A) (fewR A g).2.1 ∧ ((fewR A g).1 = 0 ∨ ((fewR A g).1 = 1 ∧ (fewR A g).2.2.1 < (fewR A g).2.1.1) ∨ (fewR A g).1 = 2) := by
  have hI := rx_inx hX
  have hf := fill_eq 27 4096 (by omega) σ 0
  generalize hσ2 : setI (setI (setA σ 27 (fun j => if j < 4096 then 0 else σ.1 27 j)) 3 7 0) 3 8 0 = σ2
  have h1 : ∀ o, o ≠ 3 → ¬ (24 ≤ o ∧ o ≤ 27) → σ2.1 o = σ.1 o := fun o h3 h4 => by rw [← hσ2, setI_ne1 h3, setI_ne1 h3, setA_ne1 (by omega)]
  have h2 : ∀ o, σ2.2 o = σ.2 o := fun o => by rw [← hσ2]; rfl
  have hI2 : InX (aY A) T0 σ2 := inx_kpb hI h1 (fun o _ => h2 o)
  have hB0 : BfX (aY A) (S0 (aD A)) σ2 := by
    refine ⟨by rw [← hσ2]; rfl, fun i hi => absurd hi (Nat.not_lt_zero i), fun i _ hi => absurd hi (Nat.not_lt_zero i), ?_⟩
    refine tb_s (tb_empty _) fun q hq => ?_
    rw [← hσ2, setI_ne1 (by decide), setI_ne1 (by decide), setA_s1, if_pos hq]
  have hS0 : WfS (aY A) (S0 (aD A)) := ⟨Nat.zero_le _, fun i hi => absurd hi (Nat.not_lt_zero i)⟩
  obtain ⟨v, σ3, n1, n2, n3, n4, n5⟩ := note_x hA.1 hS0 hB0 hA.2.1 hX.2.1 (i0 := 0) (p := 0) (o := -1) (b := 0) (fun h => absurd h (Nat.lt_irrefl 0))
  obtain ⟨_, hB1⟩ := n3 _ (add_0 (aY A) (aD A))
  have hI3 : InX (aY A) T0 σ3 := inx_kpb hI2 (fun o h3 h4 => n4 o h3 (by omega) (by omega) (by omega)) n5
  obtain ⟨w, σ4, r1, r2, r3, r4, r5⟩ := fpx_loop hA.1 hg2 1501 0 FU (S1 (aD A)) σ3 rfl (by show 1501 < 10000000; omega) (wfs_1 hA.2.1) hB1 hI3
  have hfew : FX4_fewestPushes σ (σ.2 0 9) (nI g) = some (w, σ4) := by
    unfold FX4_fewestPushes
    rw [hf, bv_some, nm_eq, nm_eq, hσ2, n1, bi_some]
    exact r1
  have hR4 : RX A σ4 := rx_fr hX ⟨fun o ho => by
    rw [r3.1 o (by omega) (by omega) (by omega) (by omega), n4 o (by omega) (by omega) (by omega) (by omega), h1 o (by omega) (by omega)], fun o ho => by
    rw [r3.2 o (by omega) (by omega), n5 o (by omega), h2]⟩ r2.2.1 (w_ext fun i _ => by rw [r2.2.2 i, w_0]; rfl)
  have hrl := revP_len (fewR A g).2.1.2 1500 (fewR A g).2.2.1 (fewR A g).2.2.2
  refine ⟨σ4, ?_, hR4, r4, ?_⟩
  · unfold FX8_fewest
    rw [isg_eq, if_pos (by rw [nI_toInt (by omega)]; omega), bi_some, if_neg (show ¬ (1 : Int32) = 0 by decide), if_pos (show (-1 : Int32) ≤ q by rw [toInt_le]; exact hq), hfew, bi_some]
    unfold fewA
    rcases r5 with ⟨c1, c2⟩ | ⟨c1, c2, c3⟩ | ⟨c1, c2⟩
    · rw [c2, if_pos (by decide), if_pos (show (fewR A g).1 = 0 from c1)]
    · have hri := revP_len_i r4 1500 (fewR A g).2.2.1 (fewR A g).2.2.2 c2
      have hn := r4.1
      change (fewR A g).2.1.1 ≤ 1500 at hn
      change (fewR A g).2.2.1 < (fewR A g).2.1.1 at c2
      change FoX (fewR A g).2.1 (fewR A g).2.2.1 (fewR A g).2.2.2 w σ4 at c3
      rw [if_neg (show ¬ (fewR A g).1 = 0 by rw [show (fewR A g).1 = 1 from c1]; decide), if_pos (show (fewR A g).1 = 1 from c1)]
      obtain ⟨d1, d2, d3⟩ := c3
      generalize hL : rowR (fewR A g).2.1 (fewR A g).2.2.1 (fewR A g).2.2.2 = L at d1 d2 d3 ⊢
      have hl1 : 1 ≤ L.length := by rw [← hL]; exact hrl.1
      have hl2 : L.length ≤ 1500 := by
        rw [← hL]
        unfold rowR
        change (revP (fewR A g).2.1.2 1500 (fewR A g).2.2.1 (fewR A g).2.2.2).length ≤ _ at hri
        omega
      rw [d1, if_neg (nI_pos (by omega))]
      by_cases hqm : q = -1
      · rw [if_pos hqm, if_pos hqm]
      · rw [if_neg hqm, if_neg hqm]
        have hq0 : 0 ≤ q.toInt := by
          rcases (show q.toInt = -1 ∨ 0 ≤ q.toInt by omega) with z | z
          · exact absurd (Int32.toInt_inj.mp z) hqm
          · exact z
        unfold FX4_pushAt
        rw [if_neg (show ¬ q < 0 by rw [toInt_lt]; show ¬ q.toInt < 0; omega), d2]
        by_cases hql : q < nI L.length
        · rw [if_pos hql]
          rw [toInt_lt, nI_toInt (by omega)] at hql
          obtain ⟨j, hj, rfl⟩ := blk (n := L.length) (a := q) ⟨hq0, hql⟩
          rw [if_neg (nI_ge hj (by omega)), if_neg (show ¬ (1500 : Int32) ≤ nI j from nI_ge (b := 1500) (by omega) (by decide)), rd_in (by omega) (by decide), bi_some, nI_toInt (by omega)]
          have := d3 (L.length - 1 - j) (by omega)
          rw [show L.length - 1 - (L.length - 1 - j) = j by omega] at this
          rw [this]
          rfl
        · rw [if_neg hql, if_pos (by rw [toInt_lt] at hql; rw [toInt_le]; omega), bi_some]
    · rw [c2, if_pos (by decide), if_neg (show ¬ (fewR A g).1 = 0 by rw [show (fewR A g).1 = 2 from c1]; decide), if_neg (show ¬ (fewR A g).1 = 1 by rw [show (fewR A g).1 = 2 from c1]; decide)]
  · rcases r5 with ⟨c1, c2⟩ | ⟨c1, c2, c3⟩ | ⟨c1, c2⟩
    · exact .inl c1
    · exact .inr (.inl ⟨c1, c2⟩)
    · exact .inr (.inr c1)

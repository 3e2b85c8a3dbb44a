/-! ===== fewest: the call ===== -/
theorem clr_24 (g q : Int32) : ∀ (m i fuel : Nat) (τ : Mem), i + m = 4096 → m < fuel → FX9_fewest_24 fuel τ g q (nI i) = (bi (FX9_yardNow (setI (setA τ 18 (fun j => if i ≤ j ∧ j < 4096 then 0 else τ.1 18 j)) 0 32 0)) fun r43 σ42 => bi (FX9_addYard σ42 r43 (-9 : Int32) (-9 : Int32)) fun r45 σ44 => FX9_fewest_67 FU σ44 g q (0 : Int32) (0 : Int32)) := by
  intro m
  induction m with
  | zero =>
    intro i fuel τ hi hf
    obtain ⟨f, rfl⟩ : ∃ f, fuel = f + 1 := ⟨fuel - 1, by omega⟩
    show BX9_fewest_24 (FX9_fewest_24 f) τ _ _ (nI i) = _
    unfold BX9_fewest_24
    rw [if_pos (show (4096 : Int32) ≤ nI i from nI_le (a := 4096) (by omega) (by omega)), nm_eq, setA_self]
    intro j
    rw [if_neg (by omega)]
  | succ m ih =>
    intro i fuel τ hi hf
    obtain ⟨f, rfl⟩ : ∃ f, fuel = f + 1 := ⟨fuel - 1, by omega⟩
    show BX9_fewest_24 (FX9_fewest_24 f) τ _ _ (nI i) = _
    unfold BX9_fewest_24
    rw [if_neg (show ¬ (4096 : Int32) ≤ nI i from nI_ge (b := 4096) (by omega) (by decide)), stI_in (by omega) (by decide), nm_eq, nI_1, ih (i + 1) f _ (by omega) (by omega), setA_setI]
    rw [setA_ext (σ := τ) (o := 18) (f := fun j => if i + 1 ≤ j ∧ j < 4096 then 0 else (setI τ 18 i 0).1 18 j) (g := fun j => if i ≤ j ∧ j < 4096 then 0 else τ.1 18 j) (fun j => by
      rw [setI_s1]
      by_cases e : j = i
      · subst e
        simp only [upd, if_true]
        rw [if_neg (by omega), if_pos (by omega)]
      · simp only [upd, if_neg e]
        by_cases h1 : i + 1 ≤ j ∧ j < 4096
        · rw [if_pos h1, if_pos (by omega)]
        · rw [if_neg h1, if_neg (by omega)])]
theorem give4 (τ : Mem) : FX9_give τ (4 : Int32) = some (givenM τ 4) := give_eq τ (l := 4) (by decide)
theorem hold4 (τ : Mem) : FX9_hold τ (4 : Int32) = some (heldM τ 4) := hold_eq τ (l := 4) (by decide)
theorem endF_eq {τ : Mem} {L : List Nat} {q : Int32} (hq : -1 ≤ q.toInt) (hl : 1 ≤ L.length ∧ L.length ≤ 1500) (hp : ∀ j, j < L.length → L.getD j 0 < 24) (h : ∀ j, j < L.length → τ.1 19 j = nI (L.getD j 0)) : endF τ q (nI L.length) = some (if q = -1 then nI L.length else if q < nI L.length then nI (num (L.getD (L.length - 1 - q.toInt.toNat) 0)) else -9, τ) := by
  unfold endF
  by_cases hqm : q = -1
  · subst hqm
    rw [if_pos (show (-1 : Int32) < 0 by decide), if_pos rfl]
    unfold FX9_fewest_186
    rw [if_neg (show ¬ (0 : Int32) ≤ -1 by decide)]
  · have hq0 : 0 ≤ q.toInt := by
      rcases (show q.toInt = -1 ∨ 0 ≤ q.toInt by omega) with z | z
      · exact absurd (Int32.toInt_inj.mp z) hqm
      · exact z
    rw [if_neg (show ¬ q < 0 by rw [toInt_lt]; show ¬ q.toInt < 0; omega), if_neg hqm]
    by_cases hql : q < nI L.length
    · rw [if_pos hql, if_pos hql]
      rw [toInt_lt, nI_toInt (by omega)] at hql
      obtain ⟨j, hj, rfl⟩ := blk (n := L.length) (a := q) ⟨hq0, hql⟩
      obtain ⟨k, hk⟩ : ∃ k, L.length = k + 1 := ⟨L.length - 1, by omega⟩
      have hpj := hp (L.length - 1 - j) (by omega)
      have hj2 := h (L.length - 1 - j) (by omega)
      unfold dzI
      rw [hk, nI_pred, pk_sub (by omega), rd_in (by omega) (by decide), nm_eq, if_neg (show ¬ (4 : Int32) = 0 by decide), if_neg (show ¬ (4 : Int32) = 0 by decide), nI_toInt (by omega)]
      rw [hk] at hj2 hpj
      rw [show k + 1 - 1 - j = k - j by omega] at hj2 hpj
      rw [hj2, m4 (by omega), d4 (by omega), show k + 1 - 1 - ((j : Int)).toNat = k - j by rw [Int.toNat_natCast]; omega, show (10 : Int32) * nI (L.getD (k - j) 0 / 4) + nI (L.getD (k - j) 0 % 4) = nI (num (L.getD (k - j) 0)) by rw [show (10 : Int32) = nI 10 from rfl, pk_mul, nI_add]; rfl]
    · rw [if_neg hql, if_neg hql]
      unfold FX9_fewest_186
      rw [if_pos (show 0 ≤ q by rw [toInt_le]; exact hq0)]
/-- every push of a row that is found is one -/
theorem rev_lt {Y : Yd} {S : BS} (hS : WfS Y S) : ∀ (f i p : Nat), i < S.1 → p < 4 * db Y → ∀ j, j < (revP S.2 f i p).length → (revP S.2 f i p).getD j 0 < 4 * db Y := by
  intro f
  induction f with
  | zero =>
    intro i p hi hp j hj
    have : j = 0 := by have : j < 1 := hj; omega
    subst this
    exact hp
  | succ f ih =>
    intro i p hi hp j hj
    by_cases h0 : i = 0
    · subst h0
      rw [show revP S.2 (f + 1) 0 p = [p] by unfold revP; rw [if_pos rfl]] at hj ⊢
      have : j = 0 := by have : j < 1 := hj; omega
      subst this
      exact hp
    · have hw := (hS.2 i hi).2 (by omega)
      have hR : revP S.2 (f + 1) i p = p :: revP S.2 f (S.2 i).2.1 (S.2 i).2.2 := by
        show (if i = 0 then [p] else p :: revP S.2 f (S.2 i).2.1 (S.2 i).2.2) = _
        rw [if_neg h0]
      rw [hR] at hj ⊢
      cases j with
      | zero => exact hp
      | succ j =>
        rw [List.length_cons] at hj
        have := ih (S.2 i).2.1 (S.2 i).2.2 (by omega) hw.2 j (by omega)
        simpa using this
theorem spr_lt {Y : Yd} {g i : Nat} : ∀ (m p : Nat) (S : BS), p + m = 4 * db Y → (spr Y g i p m S).1 = 1 → (spr Y g i p m S).2.2 < 4 * db Y := by
  intro m
  induction m with
  | zero => intro p S _ h; exact absurd (show (0 : Nat) = 1 from h) (by decide)
  | succ m ih =>
    intro p S hp h
    cases hg : gsF Y (S.2 i).1 p
    · rw [spr_no hg] at h ⊢
      exact ih (p + 1) S (by omega) h
    · by_cases e : hgt (pp Y T0 (S.2 i).1 p) = some g
      · rw [spr_fnd hg e]
        show p < _
        omega
      · cases ha : addS Y S (pp Y T0 (S.2 i).1 p).1 i p with
        | none => rw [spr_ful hg e ha] at h; exact absurd (show (2 : Nat) = 1 from h) (by decide)
        | some S' =>
          rw [spr_add hg e ha] at h ⊢
          exact ih (p + 1) S' (by omega) h
theorem bfs_lt {Y : Yd} {g : Nat} : ∀ (m i : Nat) (S : BS), (bfs Y g m i S).1 = 1 → (bfs Y g m i S).2.2.2 < 4 * db Y := by
  intro m
  induction m with
  | zero => intro i S h; exact absurd (show (0 : Nat) = 1 from h) (by decide)
  | succ m ih =>
    intro i S h
    unfold bfs at h ⊢
    by_cases h0 : S.1 ≤ i
    · rw [if_pos h0] at h; exact absurd (show (0 : Nat) = 1 from h) (by decide)
    · rw [if_neg h0] at h ⊢
      by_cases h1 : (spr Y g i 0 (4 * db Y) S).1 = 0
      · rw [if_pos h1] at h ⊢
        exact ih (i + 1) _ h
      · rw [if_neg h1] at h ⊢
        exact spr_lt (4 * db Y) 0 S (Nat.zero_add _) h
theorem few_m {A : As} {τ : Mem} (hA : WA A) (hM : RM A τ) {g : Nat} (hg2 : g < 2) {q : Int32} (hq : -1 ≤ q.toInt) : ∃ τ', FX9_fewest τ (nI g) q = some (fewA A g q, τ') ∧ RM A τ' := by
  have h6 := hA.1.2.1
  generalize hσ : setI (setA (heldM τ 4) 18 (fun j => if 0 ≤ j ∧ j < 4096 then 0 else (heldM τ 4).1 18 j)) 0 32 0 = τ1
  have hM0 : SeM (aY A) (aD A) τ (heldM τ 4) := ⟨⟨frm_ms (held_fr τ 4) hM.1, m_T0 hM, held_fr τ 4⟩, held_ok hM.2.1⟩
  have hM1 : SeM (aY A) (aD A) τ τ1 := by
    rw [← hσ]
    refine sem_cong hM0 (fun o h0 h4 h16 => by rw [setI_ne1 h0, setA_ne1 (by omega)]) (fun k hk => ?_) (fun _ _ _ => rfl) rfl
    rw [setI_s1]
    simp only [upd]
    rw [if_neg (by omega), setA_ne1 (by decide)]
  have hE1 : EncM (aY A) (aD A) (τ1.1 4) (τ1.2 0 8) := by
    rw [← hσ, setI_ne1 (by decide), setA_ne1 (by decide)]
    exact hM.2.1
  have hB0 : BfM (aY A) (S0 (aD A)) τ1 := by
    refine ⟨by rw [← hσ]; rfl, fun i hi => absurd hi (Nat.not_lt_zero i), fun i _ hi => absurd hi (Nat.not_lt_zero i), fun h => absurd h (Nat.lt_irrefl 0), ?_⟩
    refine tb_s (tb_empty _) fun k hk => ?_
    rw [← hσ, setI_ne1 (by decide), setA_s1, if_pos ⟨Nat.zero_le _, hk⟩]
  have hS0 : WfS (aY A) (S0 (aD A)) := ⟨Nat.zero_le _, fun i hi => absurd hi (Nat.not_lt_zero i)⟩
  obtain ⟨v, τ2, a1, a2, a3, a4, a5, a6⟩ := ady_m hA.1 hS0 hB0 hA.2.1 (i0 := 0) (p := 0) (o := -9) (b := -9) (fun h => absurd h (Nat.lt_irrefl 0)) (fun _ => rfl)
  obtain ⟨_, hB1⟩ := a3 _ (add_0 (aY A) (aD A))
  have hM2 : SeM (aY A) (aD A) τ τ2 := sem_cong hM1 (fun o h0 _ h16 => a4 o h0 (by omega)) (fun k hk => a5 k (by omega)) (fun o _ h15 => a6 o h15) (by rw [a6 0 (by decide)])
  obtain ⟨τ3, r1, r2, r3, r4⟩ := fm_67 hA.1 hg2 q 1501 0 FU (S1 (aD A)) τ2 rfl (by show 1502 < 10000000; omega) (wfs_1 hA.2.1) hB1 hM2
  have hfew : FX9_fewest τ (nI g) q = FX9_fewest_94 τ3 q (cdI (fewR A g).1) := by
    unfold FX9_fewest
    rw [in01, if_pos (by rw [nI_toInt (by omega)]; omega), bi_some, if_neg (show ¬ (1 : Int32) = 0 by decide), if_pos (show (-1 : Int32) ≤ q by rw [toInt_le]; exact hq), hold4, bv_some]
    have := clr_24 (nI g) q 4096 0 FU (heldM τ 4) rfl (by show 4096 < 10000000; omega)
    rw [show FX9_fewest_24 FU (heldM τ 4) (nI g) q 0 = _ from this, hσ, yn_eq hA.1 hA.2.1 hM1.1.1 hE1, bi_some, a1, bi_some]
    exact r1
  have hgiv : SeM (aY A) (aD A) τ (givenM τ3 4) ∧ EncM (aY A) (aD A) ((givenM τ3 4).1 4) ((givenM τ3 4).2 0 8) := ⟨⟨inm_given r2.1 4, given_held r2.2⟩, given_enc r2.2⟩
  rw [hfew]
  unfold FX9_fewest_94
  rw [give4, bv_some]
  unfold fewA
  rcases r4 with c1 | ⟨c1, c2, c3, c4, c5⟩ | c1
  · change (fewR A g).1 = 0 at c1
    rw [c1, if_neg (show ¬ 0 < cdI 0 by decide), if_pos (show (0 : Int32) ≤ cdI 0 by decide), if_pos rfl]
    exact ⟨_, rfl, inm_rm hM hgiv.1.1 hgiv.2⟩
  · have hlt := bfs_lt 1501 0 (S1 (aD A)) c1
    have hli := revP_len_i r3 1500 (fewR A g).2.2.1 (fewR A g).2.2.2 c2
    have hl1 := revP_len (fewR A g).2.1.2 1500 (fewR A g).2.2.1 (fewR A g).2.2.2
    have hrl := rev_lt r3 1500 (fewR A g).2.2.1 (fewR A g).2.2.2 c2 hlt
    have hn := r3.1
    change (fewR A g).1 = 1 at c1
    change (fewR A g).2.2.1 < (fewR A g).2.1.1 at c2
    change BfM (aY A) (fewR A g).2.1 τ3 at c3
    change τ3.1 0 33 = nI (fewR A g).2.2.1 at c4
    change τ3.1 0 34 = nI (fewR A g).2.2.2 at c5
    change (fewR A g).2.1.1 ≤ 1500 at hn
    change WfS (aY A) (fewR A g).2.1 at r3
    change (revP (fewR A g).2.1.2 1500 (fewR A g).2.2.1 (fewR A g).2.2.2).length ≤ (fewR A g).2.2.1 + 1 at hli
    rw [c1, if_pos (show (0 : Int32) < cdI 1 by decide), if_neg (show ¬ (1 : Nat) = 0 by decide), if_pos rfl, nm_eq, show (givenM τ3 4).1 0 33 = nI (fewR A g).2.2.1 from c4, show (givenM τ3 4).1 0 34 = nI (fewR A g).2.2.2 from c5]
    rw [show (0 : Int32) = nI 0 from rfl, stI_in (by decide) (by decide), nI_1, nm_eq]
    have hB3 : BfM (aY A) (fewR A g).2.1 (setI (givenM τ3 4) 19 0 (nI (fewR A g).2.2.2)) := bfm_cong c3 (by rw [setI_ne1 (by decide)]; rfl) (fun o h1 h2 => by
      rw [setI_ne1 (by omega)]
      show (setA τ3 4 _).1 o = _
      rw [setA_ne1 (by omega)]) rfl
    obtain ⟨τ4, e1, e2, e3, e4, e5⟩ := fm_137 r3 q 1500 (fewR A g).2.2.1 0 FU (fewR A g).2.2.2 (setI (givenM τ3 4) 19 0 (nI (fewR A g).2.2.2)) c2 (by omega) (by omega) (by show 1501 < 10000000; omega) hB3 (by rw [setI_s1]; simp [upd])
    rw [e1, Nat.zero_add]
    have hL : ∀ j, j < (rowR (fewR A g).2.1 (fewR A g).2.2.1 (fewR A g).2.2.2).length → τ4.1 19 j = nI ((rowR (fewR A g).2.1 (fewR A g).2.2.1 (fewR A g).2.2.2).getD j 0) := fun j hj => by
      have := e2 j hj
      rw [Nat.zero_add] at this
      exact this
    have hend := endF_eq (L := rowR (fewR A g).2.1 (fewR A g).2.2.1 (fewR A g).2.2.2) hq ⟨hl1.1, by unfold rowR; omega⟩ (fun j hj => Nat.lt_of_lt_of_le (hrl j hj) (by omega)) hL
    unfold rowR at hend ⊢
    rw [hend]
    refine ⟨τ4, rfl, ?_⟩
    have hM4 : SeM (aY A) (aD A) τ τ4 := sem_cong hgiv.1 (fun o h0 h4 h16 => by rw [e4 o (by omega), setI_ne1 (by omega)]) (fun k hk => by rw [e4 0 (by decide), setI_ne1 (by decide)]) (fun o _ _ => by rw [e5]; rfl) (by rw [e5]; rfl)
    refine inm_rm hM hM4.1 ?_
    rw [e4 4 (by decide), e5, setI_ne1 (by decide)]
    exact hgiv.2
  · change (fewR A g).1 = 2 at c1
    rw [c1, if_neg (show ¬ 0 < cdI 2 by decide), if_neg (show ¬ (0 : Int32) ≤ cdI 2 by decide), if_neg (show ¬ (2 : Nat) = 0 by decide), if_neg (show ¬ (2 : Nat) = 1 by decide)]
    exact ⟨_, rfl, inm_rm hM hgiv.1.1 hgiv.2⟩
theorem sim_fewest : Sim_fewest RelW := by
  intro σ τ a q h
  obtain ⟨A, hA, hX, hM⟩ := id h
  by_cases hg : 0 ≤ a.toInt ∧ a.toInt ≤ 1
  · obtain ⟨g, hg1, rfl⟩ := blk2 (n := 1) hg
    by_cases hq : (-1 : Int32) ≤ q
    · have hq' : -1 ≤ q.toInt := by rw [toInt_le] at hq; exact hq
      obtain ⟨σ', x1, x2, _⟩ := fpx_eq hA hX (g := g) (by omega) hq'
      obtain ⟨τ', m1, m2⟩ := few_m hA hM (g := g) (by omega) hq'
      exact ⟨_, σ', τ', x1, m1, A, hA, x2, m2⟩
    · refine ⟨-1, σ, τ, ?_, ?_, h⟩
      · unfold FX8_fewest
        rw [isg_eq, if_pos hg, bi_some, if_neg (show ¬ (1 : Int32) = 0 by decide), if_neg hq]
      · unfold FX9_fewest
        rw [in01, if_pos hg, bi_some, if_neg (show ¬ (1 : Int32) = 0 by decide), if_neg hq]
  · refine ⟨-1, σ, τ, ?_, ?_, h⟩
    · unfold FX8_fewest
      rw [isg_eq, if_neg hg, bi_some, if_pos rfl]
    · unfold FX9_fewest
      rw [in01, if_neg hg, bi_some, if_pos rfl]

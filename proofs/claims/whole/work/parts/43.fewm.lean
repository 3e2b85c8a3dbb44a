/-! ===== fewest: the reference's search ===== -/
def BfM (Y : Yd) (S : BS) (τ : Mem) : Prop := τ.1 0 32 = nI S.1 ∧ (∀ i, i < S.1 → τ.2 15 i = lN (codeN Y (S.2 i).1)) ∧ (∀ i, 0 < i → i < S.1 → τ.1 16 i = nI (S.2 i).2.1 ∧ τ.1 17 i = nI (S.2 i).2.2) ∧ (0 < S.1 → τ.1 16 0 = -9) ∧ TB (τ.1 18) S.1 (fun i => codeN Y (S.2 i).1 % 4093)
theorem bfm_cong {Y : Yd} {S : BS} {τ τ' : Mem} (h : BfM Y S τ) (h0 : τ'.1 0 32 = τ.1 0 32) (h1 : ∀ o, 16 ≤ o → o ≤ 18 → τ'.1 o = τ.1 o) (h2 : τ'.2 15 = τ.2 15) : BfM Y S τ' := by
  unfold BfM
  rw [h0, h1 16 (by omega) (by omega), h1 17 (by omega) (by omega), h1 18 (by omega) (by omega), h2]
  exact h
theorem pf_loop {τ : Mem} {y : Int64} {hh t0 n : Nat} (hh4 : hh < 4096) (ht : t0 < 4096) (hn : n ≤ 1500) (hbef : ∀ t', t' < t0 → ∃ i, i < n ∧ τ.1 18 ((hh + t') % 4096) = nI (i + 1) ∧ ¬ τ.2 15 i = y) (hat : τ.1 18 ((hh + t0) % 4096) = 0 ∨ ∃ i, i < n ∧ τ.1 18 ((hh + t0) % 4096) = nI (i + 1) ∧ τ.2 15 i = y) : ∀ (m t fuel : Nat), t + m = t0 → m < fuel → FX9_placeFor_7 fuel τ y (nI ((hh + t) % 4096)) = some (nI ((hh + t0) % 4096), τ) := by
  intro m
  induction m with
  | zero =>
    intro t fuel htm hf
    obtain ⟨f, rfl⟩ : ∃ f, fuel = f + 1 := ⟨fuel - 1, by omega⟩
    have e : t = t0 := by omega
    subst e
    show BX9_placeFor_7 (FX9_placeFor_7 f) τ y _ = _
    unfold BX9_placeFor_7
    rw [rd_in (by omega) (by decide)]
    rcases hat with z | ⟨i, hi, z, k⟩
    · rw [z, if_pos rfl]
    · rw [z, if_neg (nI_ne0 (by omega) (by omega)), rd_in (by omega) (by decide), z, nI_pred, rd_in (by omega) (by decide), if_pos (lg_eq.mpr k)]
  | succ m ih =>
    intro t fuel htm hf
    obtain ⟨f, rfl⟩ : ∃ f, fuel = f + 1 := ⟨fuel - 1, by omega⟩
    obtain ⟨i, hi, z, k⟩ := hbef t (by omega)
    show BX9_placeFor_7 (FX9_placeFor_7 f) τ y _ = _
    unfold BX9_placeFor_7 dzI
    rw [rd_in (by omega) (by decide), z, if_neg (nI_ne0 (by omega) (by omega)), rd_in (by omega) (by decide), z, nI_pred, rd_in (by omega) (by decide), if_neg (fun w => k (lg_eq.mp w)), if_neg (show ¬ (4096 : Int32) = 0 by decide), nI_1, show (4096 : Int32) = nI 4096 from rfl, pk_md (by omega) (by decide) (by decide), nm_eq, show ((hh + t) % 4096 + 1) % 4096 = (hh + (t + 1)) % 4096 by omega]
    exact ih (t + 1) f (by omega) (by omega)
theorem ady_m {Y : Yd} (hY : WFY Y) {S : BS} {τ : Mem} (hS : WfS Y S) (hB : BfM Y S τ) {D : Dy} (hD : WFD Y D) {i0 p : Nat} {o b : Int32} (hob : 0 < S.1 → o = nI i0 ∧ b = nI p) (hob0 : S.1 = 0 → o = -9) : ∃ (v : Int32) (τ' : Mem), FX9_addYard τ (lN (codeN Y D)) o b = some (v, τ') ∧ (addS Y S D i0 p = none → v = 0) ∧ (∀ S', addS Y S D i0 p = some S' → v = 1 ∧ BfM Y S' τ') ∧ (∀ q, q ≠ 0 → ¬ (16 ≤ q ∧ q ≤ 18) → τ'.1 q = τ.1 q) ∧ (∀ q, q ≠ 32 → τ'.1 0 q = τ.1 0 q) ∧ ∀ q, q ≠ 15 → τ'.2 q = τ.2 q := by
  have hn := hS.1
  have hcl := code_lt hY hD
  have hkey : ∀ i, i < S.1 → (τ.2 15 i = lN (codeN Y D) ↔ EqD Y (S.2 i).1 D) := fun i hi => by
    have hci := code_lt hY (hS.2 i hi).1
    rw [hB.2.1 i hi, pk_lEQ (by omega) (by omega), code_inj hY (hS.2 i hi).1 hD]
  obtain ⟨t, ht, hbef, hat⟩ := tb_probe hB.2.2.2.2 hn (hh := codeN Y D % 4093) (by omega) (fun i => τ.2 15 i = lN (codeN Y D)) (fun i hi k => by
    have := (code_inj hY (hS.2 i hi).1 hD).mpr ((hkey i hi).mp k)
    show codeN Y (S.2 i).1 % 4093 = codeN Y D % 4093
    rw [this])
  have hslot : FX9_placeFor τ (lN (codeN Y D)) = some (nI ((codeN Y D % 4093 + t) % 4096), τ) := by
    unfold FX9_placeFor dzL
    rw [if_neg (show ¬ (4093 : Int64) = 0 by decide), show (4093 : Int64) = lN 4093 from rfl, pk_lRem (by omega) (by decide) (by decide), lN_i, nm_eq]
    have e : codeN Y D % 4093 = (codeN Y D % 4093 + 0) % 4096 := by omega
    have := pf_loop (hh := codeN Y D % 4093) (by omega) ht hn hbef (by
      rcases hat with z | z
      · exact .inl z.1
      · exact .inr z) t 0 FU (Nat.zero_add _) (by show t < 10000000; omega)
    rw [← e] at this
    exact this
  have hq : (codeN Y D % 4093 + t) % 4096 < 4096 := by omega
  unfold FX9_addYard
  rw [hslot, bi_some, rd_in hq (by decide)]
  unfold addS
  rcases hat with ⟨z, hno⟩ | ⟨i, hi, z, k⟩
  · have hs : ¬ seen Y S D := fun ⟨i, hi, e⟩ => hno i hi ((hkey i hi).mpr e)
    rw [if_neg hs, z, if_pos rfl, hB.1]
    by_cases h15 : S.1 = 1500
    · rw [if_pos h15, h15, if_pos (show nI 1500 = (1500 : Int32) from rfl)]
      exact ⟨0, τ, rfl, fun _ => rfl, (fun S' h => by cases h), fun _ _ _ => rfl, fun _ _ => rfl, fun _ _ => rfl⟩
    · rw [if_neg h15, if_neg (show ¬ nI S.1 = (1500 : Int32) from fun w => h15 ((nI_eq (b := 1500) (by omega) (by decide)).mp w)), stL_in (by omega) (by decide)]
      rw [show (setL τ 15 S.1 (lN (codeN Y D))).1 0 32 = nI S.1 from hB.1, stI_in (by omega) (by decide)]
      rw [show (setI (setL τ 15 S.1 (lN (codeN Y D))) 16 S.1 o).1 0 32 = nI S.1 from hB.1, stI_in (by omega) (by decide), nm_eq]
      rw [show (setI (setI (setL τ 15 S.1 (lN (codeN Y D))) 16 S.1 o) 17 S.1 b).1 0 32 = nI S.1 from hB.1, nI_1]
      rw [show (setI (setI (setI (setL τ 15 S.1 (lN (codeN Y D))) 16 S.1 o) 17 S.1 b) 0 32 (nI (S.1 + 1))).1 0 32 = nI (S.1 + 1) from rfl, stI_in hq (by decide)]
      refine ⟨1, _, rfl, (fun h => by cases h), fun S' h => ?_, fun q h0 h16 => ?_, fun q h32 => ?_, fun q h15 => ?_⟩
      · cases h
        refine ⟨rfl, rfl, fun i hi => ?_, fun i h0 hi => ?_, fun _ => ?_, ?_⟩
        · have hi : i < S.1 + 1 := hi
          show vp_updL (τ.2 15) S.1 (lN (codeN Y D)) i = lN (codeN Y (if i = S.1 then (D, i0, p) else S.2 i).1)
          by_cases e : i = S.1
          · simp only [vp_updL, if_pos e]
          · simp only [vp_updL, if_neg e]; exact hB.2.1 i (by omega)
        · have hi : i < S.1 + 1 := hi
          show upd (τ.1 16) S.1 o i = nI (if i = S.1 then (D, i0, p) else S.2 i).2.1 ∧ upd (τ.1 17) S.1 b i = nI (if i = S.1 then (D, i0, p) else S.2 i).2.2
          by_cases e : i = S.1
          · simp only [upd, if_pos e]
            have := hob (by omega)
            exact ⟨this.1, this.2⟩
          · simp only [upd, if_neg e]
            exact hB.2.2.1 i h0 (by omega)
        · show upd (τ.1 16) S.1 o 0 = -9
          by_cases e : S.1 = 0
          · rw [e]; simp only [upd, if_true]; exact hob0 e
          · simp only [upd]
            rw [if_neg (fun w => e w.symm)]
            exact hB.2.2.2.1 (by omega)
        · show TB (upd (τ.1 18) ((codeN Y D % 4093 + t) % 4096) (nI (S.1 + 1))) (S.1 + 1) (fun i => codeN Y (if i = S.1 then (D, i0, p) else S.2 i).1 % 4093)
          refine tb_ins hB.2.2.2.2 (by omega) ht (fun t' ht' => ?_) z (fun j hj => ?_) ?_
          · obtain ⟨i, hi, w, _⟩ := hbef t' ht'
            rw [w]; exact nI_ne0 (by omega) (by omega)
          · show codeN Y (if j = S.1 then (D, i0, p) else S.2 j).1 % 4093 = _
            rw [if_neg (by omega)]
          · show codeN Y (if S.1 = S.1 then (D, i0, p) else S.2 S.1).1 % 4093 = _
            rw [if_pos rfl]
      · rw [setI_ne1 (by omega), setI_ne1 h0, setI_ne1 (by omega), setI_ne1 (by omega)]; rfl
      · rw [setI_ne1 (by decide), setI_s1]
        simp only [upd, if_neg h32]
        rfl
      · show (setL τ 15 S.1 (lN (codeN Y D))).2 q = _
        rw [setL_ne2 h15]
  · have hs : seen Y S D := ⟨i, hi, (hkey i hi).mp k⟩
    rw [if_pos hs, z, if_neg (nI_ne0 (by omega) (by omega))]
    exact ⟨1, τ, rfl, (fun h => by cases h), (fun S' h => by cases h; exact ⟨rfl, hB⟩), fun _ _ _ => rfl, fun _ _ => rfl, fun _ _ => rfl⟩
/-- what the search keeps -/
def SeM (Y : Yd) (D0 : Dy) (τ0 τ : Mem) : Prop := InM Y T0 τ0 τ ∧ Held Y D0 4 τ
theorem sem_cong {Y : Yd} {D0 : Dy} {τ0 τ τ' : Mem} (h : SeM Y D0 τ0 τ) (h1 : ∀ o, o ≠ 0 → o ≠ 4 → ¬ (16 ≤ o ∧ o ≤ 19) → τ'.1 o = τ.1 o) (h0 : ∀ q, ¬ (32 ≤ q ∧ q ≤ 34) → τ'.1 0 q = τ.1 0 q) (h2 : ∀ o, o ≠ 0 → o ≠ 15 → τ'.2 o = τ.2 o) (h3 : τ'.2 0 17 = τ.2 0 17) : SeM Y D0 τ0 τ' := by
  have hf : FrM τ τ' := ⟨fun o ho => h1 o (by omega) (by omega) (by omega), fun q hq => h0 q (by omega), fun o ho => h2 o (by omega) (by omega)⟩
  refine ⟨⟨frm_ms hf h.1.1, fun i => by rw [h3]; exact h.1.2.1 i, frm_trans h.1.2.2 hf⟩, ?_⟩
  unfold Held
  rw [h1 8 (by decide) (by decide) (by decide), h2 9 (by decide) (by decide)]
  exact h.2
theorem sp_m {Y : Yd} (hY : WFY Y) {D0 : Dy} {τ0 : Mem} {g i : Nat} (hg2 : g < 2) : ∀ (m p fuel : Nat) (S : BS) (τ : Mem), p + m = 4 * db Y → m < fuel → WfS Y S → i < S.1 → BfM Y S τ → SeM Y D0 τ0 τ → ∃ (v : Int32) (τ' : Mem), FX9_spread_2 fuel τ (nI i) (nI g) (nI p) = some (v, τ') ∧ SeM Y D0 τ0 τ' ∧ WfS Y (spr Y g i p m S).2.1 ∧ S.1 ≤ (spr Y g i p m S).2.1.1 ∧ ((spr Y g i p m S).1 = 0 ∧ v = 0 ∧ BfM Y (spr Y g i p m S).2.1 τ' ∨ (spr Y g i p m S).1 = 1 ∧ v = 1 ∧ BfM Y (spr Y g i p m S).2.1 τ' ∧ τ'.1 0 33 = nI i ∧ τ'.1 0 34 = nI (spr Y g i p m S).2.2 ∨ (spr Y g i p m S).1 = 2 ∧ v = -1) := by
  have h6 := hY.2.1
  intro m
  induction m with
  | zero =>
    intro p fuel S τ hp hf hS hi hB hM
    obtain ⟨f, rfl⟩ : ∃ f, fuel = f + 1 := ⟨fuel - 1, by omega⟩
    refine ⟨0, τ, ?_, hM, hS, Nat.le_refl _, .inl ⟨rfl, rfl, hB⟩⟩
    show BX9_spread_2 (FX9_spread_2 f) τ _ _ (nI p) = _
    unfold BX9_spread_2
    rw [hM.1.1.2.2.1, n4, if_pos (nI_le (by omega) (by omega))]
  | succ m ih =>
    intro p fuel S τ hp hf hS hi hB hM
    obtain ⟨f, rfl⟩ : ∃ f, fuel = f + 1 := ⟨fuel - 1, by omega⟩
    have hn := hS.1
    have un : FX9_spread_2 (f + 1) τ (nI i) (nI g) (nI p) = BX9_spread_2 (FX9_spread_2 f) τ (nI i) (nI g) (nI p) := rfl
    rw [un]
    unfold BX9_spread_2 dzI
    have hDi := (hS.2 i hi).1
    obtain ⟨τ1, l1, l2, l3, l4, l5⟩ := ly_eq hY hDi hM.1.1
    have hM1 : SeM Y D0 τ0 τ1 := sem_cong hM (fun o _ h4 _ => l2 o h4) (fun q _ => by rw [l2 0 (by decide)]) (fun o h0 _ => l3 o h0) (l4 17 (by decide))
    have hB1 : BfM Y S τ1 := bfm_cong hB (by rw [l2 0 (by decide)]) (fun o h1 h2 => l2 o (by omega)) (l3 15 (by decide))
    obtain ⟨τ2, g1, g2, g3⟩ := gom hY (t0_ok Y) hDi hM1.1 l5 (show p < 4 * db Y by omega)
    have hP := pu_ok hY hDi (T := T0) (k := p / 4) (d := p % 4) (by omega)
    have hM2 : SeM Y D0 τ0 τ2 := ⟨g3, sl_held g2 hM1.2⟩
    have hB2 : BfM Y S τ2 := bfm_cong hB1 (g2.2.1 32 (by decide)) (fun o h1 h2 => g2.1 o (by omega) (by omega)) (g2.2.2.1 15 (by decide))
    rw [hM.1.1.2.2.1, n4, if_neg (nI_ge (by omega) (by omega)), rd_in (by omega) (by decide), hB.2.1 i hi, l1, bv_some, if_neg (show ¬ (4 : Int32) = 0 by decide), if_neg (show ¬ (4 : Int32) = 0 by decide), m4 (by omega), d4 (by omega), g1, bi_some]
    obtain ⟨t1, _⟩ := ho_own (r := pp Y T0 (S.2 i).1 p) hg2 (fun q hq => (hP.2.2 q hq).2)
    rw [← g2.2.2.2.2.2.2] at t1
    cases ha : anyT Y (pp Y T0 (S.2 i).1 p).2.1
    · rw [if_neg (show ¬ false = true by decide), if_pos rfl, nm_eq, nI_1, spr_no (show gsF Y (S.2 i).1 p = false from ha)]
      exact ih (p + 1) f S τ2 (by omega) (by omega) hS hi hB2 hM2
    · have hgs : gsF Y (S.2 i).1 p = true := ha
      rw [if_pos rfl, if_neg (show ¬ (1 : Int32) = 0 by decide)]
      by_cases e1 : hgt (pp Y T0 (S.2 i).1 p) = some g
      · rw [if_pos (t1.mpr e1), nm_eq, nm_eq, spr_fnd hgs e1]
        refine ⟨1, _, rfl, ?_, hS, Nat.le_refl _, .inr (.inl ⟨rfl, rfl, ?_, rfl, rfl⟩)⟩
        · refine sem_cong hM2 (fun o h0 _ _ => by rw [setI_ne1 h0, setI_ne1 h0]) (fun q hq => ?_) (fun _ _ _ => rfl) rfl
          rw [setI_s1]
          simp only [upd]
          rw [if_neg (by omega), setI_s1]
          simp only [upd]
          rw [if_neg (by omega)]
        · exact bfm_cong hB2 rfl (fun o h1 h2 => by rw [setI_ne1 (by omega), setI_ne1 (by omega)]) rfl
      · rw [if_neg (fun z => e1 (t1.mp z)), yn_eq hY hP.1 hM2.1.1 g2.2.2.2.2.1, bi_some]
        obtain ⟨v, τ3, a1, a2, a3, a4, a5, a6⟩ := ady_m hY hS hB2 hP.1 (i0 := i) (p := p) (o := nI i) (b := nI p) (fun _ => ⟨rfl, rfl⟩) (fun h => by omega)
        have hM3 : SeM Y D0 τ0 τ3 := sem_cong hM2 (fun o h0 _ h16 => a4 o h0 (by omega)) (fun q hq => a5 q (by omega)) (fun o _ h15 => a6 o h15) (by rw [a6 0 (by decide)])
        rw [a1, bi_some]
        cases hadd : addS Y S (pp Y T0 (S.2 i).1 p).1 i p with
        | none =>
          rw [a2 hadd, if_pos rfl, spr_ful hgs e1 hadd]
          exact ⟨-1, τ3, rfl, hM3, hS, Nat.le_refl _, .inr (.inr ⟨rfl, rfl⟩)⟩
        | some S' =>
          obtain ⟨b1, b2⟩ := a3 S' hadd
          obtain ⟨w1, w2, w3⟩ := wfs_add hS hP.1 (.inl hi) (.inl (by omega)) hadd
          rw [b1, if_neg (show ¬ (1 : Int32) = 0 by decide), nm_eq, nI_1, spr_add hgs e1 hadd]
          obtain ⟨v', τ', r1, r2, r3, r4, r5⟩ := ih (p + 1) f S' τ3 (by omega) (by omega) w1 (by omega) b2 hM3
          exact ⟨v', τ', r1, r2, r3, Nat.le_trans w2 r4, r5⟩
/-- what the search answers, by its code -/
def cdI (c : Nat) : Int32 := if c = 0 then 0 else if c = 1 then 1 else -1
theorem fm_67 {Y : Yd} (hY : WFY Y) {D0 : Dy} {τ0 : Mem} {g : Nat} (hg2 : g < 2) (q : Int32) : ∀ (m i fuel : Nat) (S : BS) (τ : Mem), i + m = 1501 → m + 1 < fuel → WfS Y S → BfM Y S τ → SeM Y D0 τ0 τ → ∃ (τ' : Mem), FX9_fewest_67 fuel τ (nI g) q 0 (nI i) = FX9_fewest_94 τ' q (cdI (bfs Y g m i S).1) ∧ SeM Y D0 τ0 τ' ∧ WfS Y (bfs Y g m i S).2.1 ∧ ((bfs Y g m i S).1 = 0 ∨ (bfs Y g m i S).1 = 1 ∧ (bfs Y g m i S).2.2.1 < (bfs Y g m i S).2.1.1 ∧ BfM Y (bfs Y g m i S).2.1 τ' ∧ τ'.1 0 33 = nI (bfs Y g m i S).2.2.1 ∧ τ'.1 0 34 = nI (bfs Y g m i S).2.2.2 ∨ (bfs Y g m i S).1 = 2) := by
  have h6 := hY.2.1
  intro m
  induction m with
  | zero =>
    intro i fuel S τ hi hf hS hB hM
    obtain ⟨f, rfl⟩ : ∃ f, fuel = f + 1 := ⟨fuel - 1, by omega⟩
    have hn := hS.1
    refine ⟨τ, ?_, hM, hS, .inl rfl⟩
    show BX9_fewest_67 (FX9_fewest_67 f) τ _ q 0 (nI i) = _
    unfold BX9_fewest_67
    rw [hB.1, if_pos (nI_le (by omega) (by omega))]
    rfl
  | succ m ih =>
    intro i fuel S τ hi hf hS hB hM
    obtain ⟨f, rfl⟩ : ∃ f, fuel = f + 1 := ⟨fuel - 1, by omega⟩
    have hn := hS.1
    have un : FX9_fewest_67 (f + 1) τ (nI g) q 0 (nI i) = BX9_fewest_67 (FX9_fewest_67 f) τ (nI g) q 0 (nI i) := rfl
    rw [un]
    unfold BX9_fewest_67 bfs
    rw [hB.1]
    by_cases h0 : S.1 ≤ i
    · rw [if_pos (nI_le h0 (by omega)), if_pos h0]
      exact ⟨τ, rfl, hM, hS, .inl rfl⟩
    · rw [if_neg (nI_ge (by omega) (by omega)), if_neg h0, if_pos rfl]
      unfold FX9_spread
      obtain ⟨v, τ1, r1, r2, r3, r4, r5⟩ := sp_m hY hg2 (4 * db Y) 0 FU S τ (Nat.zero_add _) (by show _ < 10000000; omega) hS (show i < S.1 by omega) hB hM
      rw [show FX9_spread_2 FU τ (nI i) (nI g) 0 = _ from r1, bi_some, nm_eq, nI_1]
      have stop : ∀ v : Int32, ¬ v = 0 → FX9_fewest_67 f τ1 (nI g) q v (nI (i + 1)) = FX9_fewest_94 τ1 q v := by
        intro v hv
        obtain ⟨f', rfl⟩ : ∃ f', f = f' + 1 := ⟨f - 1, by omega⟩
        show BX9_fewest_67 (FX9_fewest_67 f') τ1 _ q v _ = _
        unfold BX9_fewest_67
        by_cases z : τ1.1 0 32 ≤ nI (i + 1)
        · rw [if_pos z]
        · rw [if_neg z, if_neg hv]
      rcases r5 with ⟨c1, c2, c3⟩ | ⟨c1, c2, c3, c4, c5⟩ | ⟨c1, c2⟩
      · rw [c2, if_pos c1]
        exact ih (i + 1) f _ τ1 (by omega) (by omega) r3 c3 r2
      · rw [c2, if_neg (by rw [c1]; decide), stop 1 (by decide)]
        refine ⟨τ1, ?_, r2, r3, .inr (.inl ⟨c1, Nat.lt_of_lt_of_le (show i < S.1 by omega) r4, c3, c4, c5⟩)⟩
        rw [c1]; rfl
      · rw [c2, if_neg (by rw [c1]; decide), stop (-1) (by decide)]
        refine ⟨τ1, ?_, r2, r3, .inr (.inr c1)⟩
        rw [c1]; rfl
noncomputable def endF (τ : Mem) (x2 x4 : Int32) : Option (Int32 × Mem) := if x2 < 0 then
  (FX9_fewest_186 τ x2 x4)
  else
  (if x2 < x4 then
  (rd ((x4 - (1 : Int32)) - x2) 1501 fun j27 =>
  nm (τ.1 19 j27) fun x_28 =>
  dzI (4 : Int32) <|
  dzI (4 : Int32) <|
  some ((((10 : Int32) * (x_28 / (4 : Int32))) + (x_28 - x_28 / (4 : Int32) * (4 : Int32))), τ))
  else
  (FX9_fewest_186 τ x2 x4))
theorem fm_137 {Y : Yd} {S : BS} (hS : WfS Y S) (q : Int32) : ∀ (f cur c fuel p : Nat) (τ : Mem), cur < S.1 → cur ≤ f → c + cur < 1501 → f + 1 < fuel → BfM Y S τ → τ.1 19 c = nI p → ∃ τ', FX9_fewest_137 fuel τ q (nI (c + 1)) (nI cur) = endF τ' q (nI (c + (revP S.2 f cur p).length)) ∧ (∀ j, j < (revP S.2 f cur p).length → τ'.1 19 (c + j) = nI ((revP S.2 f cur p).getD j 0)) ∧ (∀ j, j < c → τ'.1 19 j = τ.1 19 j) ∧ (∀ o, o ≠ 19 → τ'.1 o = τ.1 o) ∧ τ'.2 = τ.2 := by
  have hn := hS.1
  intro f
  have base : ∀ (c fuel p : Nat) (τ : Mem), 0 < fuel → 0 < S.1 → BfM Y S τ → τ.1 19 c = nI p → ∃ τ', FX9_fewest_137 fuel τ q (nI (c + 1)) (nI 0) = endF τ' q (nI (c + ([p] : List Nat).length)) ∧ (∀ j, j < ([p] : List Nat).length → τ'.1 19 (c + j) = nI (([p] : List Nat).getD j 0)) ∧ (∀ j, j < c → τ'.1 19 j = τ.1 19 j) ∧ (∀ o, o ≠ 19 → τ'.1 o = τ.1 o) ∧ τ'.2 = τ.2 := by
    intro c fuel p τ hf h0 hB hc
    obtain ⟨f', rfl⟩ : ∃ f', fuel = f' + 1 := ⟨fuel - 1, by omega⟩
    refine ⟨τ, ?_, fun j hj => ?_, fun _ _ => rfl, fun _ _ => rfl, rfl⟩
    · show BX9_fewest_137 (FX9_fewest_137 f') τ q _ _ = _
      unfold BX9_fewest_137
      rw [rd_in (by decide) (by decide), hB.2.2.2.1 h0, if_pos (by decide)]
      rfl
    · have : j = 0 := by have : j < 1 := hj; omega
      subst this
      exact hc
  induction f with
  | zero =>
    intro cur c fuel p τ hc hcf hcc hf hB h19
    have e : cur = 0 := by omega
    subst e
    exact base c fuel p τ (by omega) hc hB h19
  | succ f ih =>
    intro cur c fuel p τ hc hcf hcc hf hB h19
    by_cases h0 : cur = 0
    · subst h0
      rw [show revP S.2 (f + 1) 0 p = [p] by unfold revP; rw [if_pos rfl]]
      exact base c fuel p τ (by omega) hc hB h19
    · obtain ⟨f', rfl⟩ : ∃ f', fuel = f' + 1 := ⟨fuel - 1, by omega⟩
      have hw := (hS.2 cur hc).2 (by omega)
      have hb := hB.2.2.1 cur (by omega) hc
      have hR : revP S.2 (f + 1) cur p = p :: revP S.2 f (S.2 cur).2.1 (S.2 cur).2.2 := by
        show (if cur = 0 then [p] else p :: revP S.2 f (S.2 cur).2.1 (S.2 cur).2.2) = _
        rw [if_neg h0]
      have hB1 : BfM Y S (setI τ 19 (c + 1) (nI (S.2 cur).2.2)) := bfm_cong hB (by rw [setI_ne1 (by decide)]) (fun o h1 h2 => setI_ne1 (by omega)) rfl
      obtain ⟨τ', r1, r2, r3, r4, r5⟩ := ih (S.2 cur).2.1 (c + 1) f' (S.2 cur).2.2 (setI τ 19 (c + 1) (nI (S.2 cur).2.2)) (by omega) (by omega) (by omega) (by omega) hB1 (by rw [setI_s1]; simp [upd])
      rw [hR]
      refine ⟨τ', ?_, fun j hj => ?_, fun j hj => ?_, fun o ho => by rw [r4 o ho, setI_ne1 ho], by rw [r5]; rfl⟩
      · rw [List.length_cons, show c + ((revP S.2 f (S.2 cur).2.1 (S.2 cur).2.2).length + 1) = c + 1 + (revP S.2 f (S.2 cur).2.1 (S.2 cur).2.2).length by omega, ← r1]
        show BX9_fewest_137 (FX9_fewest_137 f') τ q _ _ = _
        unfold BX9_fewest_137
        rw [rd_in (by omega) (by decide), hb.1, if_neg (nI_pos (by omega)), rd_in (by omega) (by decide), hb.2, stI_in (by omega) (by decide), rd_in (by omega) (by decide), show (setI τ 19 (c + 1) (nI (S.2 cur).2.2)).1 16 cur = nI (S.2 cur).2.1 from hb.1, nm_eq, nm_eq, nI_1]
      · cases j with
        | zero =>
          rw [Nat.add_zero, r3 c (by omega), setI_s1]
          simp only [upd]
          rw [if_neg (by omega), h19]
          rfl
        | succ j =>
          rw [List.length_cons] at hj
          have := r2 j (by omega)
          rw [show c + 1 + j = c + (j + 1) by omega] at this
          rw [this]
          simp
      · rw [r3 j (by omega), setI_s1]
        simp only [upd]
        rw [if_neg (by omega)]

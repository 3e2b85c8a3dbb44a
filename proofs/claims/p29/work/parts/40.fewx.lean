/-! ===== fewest: the class's search ===== -/
theorem wr_10 {Y : Yd} {S : BS} (hS : WfS Y S) (x1 x2 : Int32) : ∀ (f cur st fuel len p : Nat) (σ : Mem), cur < S.1 → cur ≤ f → st + cur < 1500 → f < fuel → σ.1 3 8 = nI len → (∀ i, 0 < i → i < S.1 → σ.1 24 i = nI (S.2 i).2.1) → FX4_writeRow_10 fuel σ x1 x2 (nI cur) (nI st) = FX4_writeRow_52 (setI σ 3 8 (nI (len + (revP S.2 f cur p).length - 1))) x1 x2 := by
  have hn := hS.1
  intro f
  have set_same : ∀ (σ : Mem) (len : Nat), σ.1 3 8 = nI len → setI σ 3 8 (nI len) = σ := fun σ len h => by
    unfold setI
    refine Prod.ext ?_ rfl
    funext a
    by_cases e : a = 3
    · subst e
      simp only [va_up_self]
      funext j
      by_cases e2 : j = 8
      · subst e2; simp [upd, h]
      · simp [upd, e2]
    · simp only [va_up_ne _ _ e]
  induction f with
  | zero =>
    intro cur st fuel len p σ hc hcf hst hf hlen hch
    obtain ⟨f', rfl⟩ : ∃ f', fuel = f' + 1 := ⟨fuel - 1, by omega⟩
    have e : cur = 0 := by omega
    subst e
    show BX4_writeRow_10 (FX4_writeRow_10 f') σ x1 x2 _ _ = _
    unfold BX4_writeRow_10
    rw [if_neg (show ¬ (1500 : Int32) ≤ nI st from nI_ge (b := 1500) (by omega) (by decide)), if_pos (show nI 0 ≤ 0 by decide)]
    show _ = FX4_writeRow_52 (setI σ 3 8 (nI (len + 1 - 1))) x1 x2
    rw [Nat.add_sub_cancel, set_same σ len hlen]
  | succ f ih =>
    intro cur st fuel len p σ hc hcf hst hf hlen hch
    obtain ⟨f', rfl⟩ : ∃ f', fuel = f' + 1 := ⟨fuel - 1, by omega⟩
    show BX4_writeRow_10 (FX4_writeRow_10 f') σ x1 x2 _ _ = _
    unfold BX4_writeRow_10 revP
    rw [if_neg (show ¬ (1500 : Int32) ≤ nI st from nI_ge (b := 1500) (by omega) (by decide))]
    by_cases h0 : cur = 0
    · subst h0
      rw [if_pos (show nI 0 ≤ 0 by decide), if_pos rfl]
      show _ = FX4_writeRow_52 (setI σ 3 8 (nI (len + 1 - 1))) x1 x2
      rw [Nat.add_sub_cancel, set_same σ len hlen]
    · have hw := (hS.2 cur hc).2 (by omega)
      rw [if_neg (nI_nle (by omega) (by omega)), if_neg (show ¬ (1500 : Int32) ≤ nI cur from nI_ge (b := 1500) (by omega) (by decide)), if_neg h0, hlen, nI_1, nm_eq, rd_in (by omega) (by decide), show (setI σ 3 8 (nI (len + 1))).1 24 cur = nI (S.2 cur).2.1 from hch cur (by omega) hc, nm_eq, nI_1, nm_eq, ih (S.2 cur).2.1 (st + 1) f' (len + 1) (S.2 cur).2.2 (setI σ 3 8 (nI (len + 1))) (by omega) (by omega) (by omega) (by omega) rfl hch, set2, List.length_cons]
      have := revP_len S.2 f (S.2 cur).2.1 (S.2 cur).2.2
      rw [show len + 1 + (revP S.2 f (S.2 cur).2.1 (S.2 cur).2.2).length - 1 = len + ((revP S.2 f (S.2 cur).2.1 (S.2 cur).2.2).length + 1) - 1 by omega]
theorem wr_68 {Y : Yd} {S : BS} (hS : WfS Y S) : ∀ (f cur st fuel q p : Nat) (σ : Mem), cur < S.1 → cur ≤ f → q + 1 = (revP S.2 f cur p).length → st + q < 1500 → f + 1 < fuel → (∀ i, 0 < i → i < S.1 → σ.1 24 i = nI (S.2 i).2.1 ∧ σ.1 25 i = nI (num (S.2 i).2.2)) → ∃ σ', FX4_writeRow_68 fuel σ (nI cur) (nI q) (nI (num p)) (nI st) = some σ' ∧ (∀ j, j ≤ q → σ'.1 26 (q - j) = nI (num ((revP S.2 f cur p).getD j 0))) ∧ (∀ j, q < j → σ'.1 26 j = σ.1 26 j) ∧ (∀ o, o ≠ 26 → σ'.1 o = σ.1 o) ∧ σ'.2 = σ.2 := by
  have hn := hS.1
  intro f
  have stop : ∀ (fuel : Nat) (σ : Mem) (x5 : Int32) (cur st : Nat), 0 < fuel → FX4_writeRow_68 fuel σ (nI cur) (-1) x5 (nI st) = some σ := by
    intro fuel σ x5 cur st hf
    obtain ⟨f', rfl⟩ : ∃ f', fuel = f' + 1 := ⟨fuel - 1, by omega⟩
    show BX4_writeRow_68 (FX4_writeRow_68 f') σ _ _ _ _ = _
    unfold BX4_writeRow_68
    by_cases z : (1500 : Int32) ≤ nI st
    · rw [if_pos z]
    · rw [if_neg z, if_pos (by decide)]
  induction f with
  | zero =>
    intro cur st fuel q p σ hc hcf hq hst hf hch
    obtain ⟨f', rfl⟩ : ∃ f', fuel = f' + 1 := ⟨fuel - 1, by omega⟩
    have e : cur = 0 := by omega
    subst e
    have hq0 : q = 0 := by have : q + 1 = 1 := hq; omega
    subst hq0
    refine ⟨setI σ 26 0 (nI (num p)), ?_, fun j hj => ?_, fun j hj => ?_, fun o ho => setI_ne1 ho, rfl⟩
    · show BX4_writeRow_68 (FX4_writeRow_68 f') σ _ _ _ _ = _
      unfold BX4_writeRow_68
      rw [if_neg (show ¬ (1500 : Int32) ≤ nI st from nI_ge (b := 1500) (by omega) (by decide)), if_neg (nI_pos (by omega)), if_neg (show ¬ (1500 : Int32) ≤ nI 0 by decide), stI_in (by decide) (by decide), nm_eq, if_pos (show nI 0 ≤ 0 by decide), nm_eq, nI_1]
      exact stop f' _ _ 0 (st + 1) (by omega)
    · have e : j = 0 := by omega
      subst e
      rw [setI_s1]; simp [upd, revP]
    · rw [setI_s1]; simp only [upd]; rw [if_neg (by omega)]
  | succ f ih =>
    intro cur st fuel q p σ hc hcf hq hst hf hch
    obtain ⟨f', rfl⟩ : ∃ f', fuel = f' + 1 := ⟨fuel - 1, by omega⟩
    have un : FX4_writeRow_68 (f' + 1) σ (nI cur) (nI q) (nI (num p)) (nI st) = BX4_writeRow_68 (FX4_writeRow_68 f') σ (nI cur) (nI q) (nI (num p)) (nI st) := rfl
    rw [un]
    unfold BX4_writeRow_68
    rw [if_neg (show ¬ (1500 : Int32) ≤ nI st from nI_ge (b := 1500) (by omega) (by decide)), if_neg (nI_pos (by omega)), if_neg (show ¬ (1500 : Int32) ≤ nI q from nI_ge (b := 1500) (by omega) (by decide)), stI_in (by omega) (by decide), nm_eq]
    by_cases h0 : cur = 0
    · subst h0
      have hR : revP S.2 (f + 1) 0 p = [p] := by unfold revP; rw [if_pos rfl]
      rw [hR] at hq ⊢
      have hq0 : q = 0 := by have : q + 1 = 1 := hq; omega
      subst hq0
      refine ⟨setI σ 26 0 (nI (num p)), ?_, fun j hj => ?_, fun j hj => ?_, fun o ho => setI_ne1 ho, rfl⟩
      · rw [if_pos (show nI 0 ≤ 0 by decide), nm_eq, nI_1]
        exact stop f' _ _ 0 (st + 1) (by omega)
      · have e : j = 0 := by omega
        subst e
        rw [setI_s1]; simp [upd]
      · rw [setI_s1]; simp only [upd]; rw [if_neg (by omega)]
    · have hw := (hS.2 cur hc).2 (by omega)
      have hR : revP S.2 (f + 1) cur p = p :: revP S.2 f (S.2 cur).2.1 (S.2 cur).2.2 := by
        show (if cur = 0 then [p] else p :: revP S.2 f (S.2 cur).2.1 (S.2 cur).2.2) = _
        rw [if_neg h0]
      rw [hR] at hq ⊢
      rw [List.length_cons] at hq
      have hl := revP_len S.2 f (S.2 cur).2.1 (S.2 cur).2.2
      obtain ⟨q', rfl⟩ : ∃ q', q = q' + 1 := ⟨q - 1, by omega⟩
      rw [if_neg (nI_nle (by omega) (by omega)), if_neg (show ¬ (1500 : Int32) ≤ nI cur from nI_ge (b := 1500) (by omega) (by decide)), rd_in (by omega) (by decide), show (setI σ 26 (q' + 1) (nI (num p))).1 25 cur = nI (num (S.2 cur).2.2) from (hch cur (by omega) hc).2, nm_eq, rd_in (by omega) (by decide), show (setI σ 26 (q' + 1) (nI (num p))).1 24 cur = nI (S.2 cur).2.1 from (hch cur (by omega) hc).1, nm_eq, nm_eq, nI_1, pk_m1]
      obtain ⟨σ', r1, r2, r3, r4, r5⟩ := ih (S.2 cur).2.1 (st + 1) f' q' (S.2 cur).2.2 (setI σ 26 (q' + 1) (nI (num p))) (by omega) (by omega) (by omega) (by omega) (by omega) hch
      refine ⟨σ', r1, fun j hj => ?_, fun j hj => ?_, fun o ho => by rw [r4 o ho, setI_ne1 ho], r5⟩
      · cases j with
        | zero =>
          rw [r3 (q' + 1 - 0) (by omega), setI_s1]
          simp [upd]
        | succ j =>
          rw [show q' + 1 - (j + 1) = q' - j by omega, r2 j (by omega)]
          simp
      · rw [r3 j (by omega), setI_s1]
        simp only [upd]
        rw [if_neg (by omega)]
/-- the row that is found -/
def rowR (S : BS) (i p : Nat) : List Nat := revP S.2 1500 i p
theorem wr_eq {Y : Yd} {S : BS} (hS : WfS Y S) {σ : Mem} (hB : BfX Y S σ) {i p : Nat} (hi : i < S.1) : ∃ σ', FX4_writeRow σ (nI i) (nI (num p)) = some σ' ∧ σ'.1 3 8 = nI (rowR S i p).length ∧ (∀ j, j < (rowR S i p).length → σ'.1 26 ((rowR S i p).length - 1 - j) = nI (num ((rowR S i p).getD j 0))) ∧ (∀ o, o ≠ 3 → o ≠ 26 → σ'.1 o = σ.1 o) ∧ σ'.2 = σ.2 := by
  have hn := hS.1
  have hl := revP_len_i hS 1500 i p hi
  have hl1 := revP_len S.2 1500 i p
  unfold FX4_writeRow
  rw [nm_eq, show (0 : Int32) = nI 0 from rfl, wr_10 hS (nI i) (nI (num p)) 1500 i 0 FU 1 p (setI σ 3 8 1) hi (by omega) (by omega) (by show 1500 < 10000000; omega) rfl (fun j h0 hj => (hB.2.2.1 j h0 hj).1), set2]
  unfold FX4_writeRow_52
  rw [show (setI σ 3 8 (nI (1 + (revP S.2 1500 i p).length - 1))).1 3 8 = nI (1 + (revP S.2 1500 i p).length - 1) from rfl, nm_eq]
  unfold rowR
  obtain ⟨L, hL⟩ : ∃ L, (revP S.2 1500 i p).length = L + 1 := ⟨(revP S.2 1500 i p).length - 1, by omega⟩
  rw [hL, show 1 + (L + 1) - 1 = L + 1 by omega, nI_pred]
  obtain ⟨σ', r1, r2, r3, r4, r5⟩ := wr_68 hS 1500 i 0 FU L p (setI σ 3 8 (nI (L + 1))) hi (by omega) hL.symm (by omega) (by show 1501 < 10000000; omega) (fun j h0 hj => hB.2.2.1 j h0 hj)
  refine ⟨σ', r1, ?_, fun j hj => ?_, fun o h3 h26 => by rw [r4 o h26, setI_ne1 h3], r5⟩
  · rw [r4 3 (by decide)]; rfl
  · rw [show L + 1 - 1 - j = L - j by omega]
    exact r2 j (by omega)
/-- what the class's search leaves when it has found -/
def FoX (S : BS) (i p : Nat) (v : Int32) (σ : Mem) : Prop := v = nI (rowR S i p).length ∧ σ.1 3 8 = nI (rowR S i p).length ∧ ∀ j, j < (rowR S i p).length → σ.1 26 ((rowR S i p).length - 1 - j) = nI (num ((rowR S i p).getD j 0))
theorem inx_kpb {Y : Yd} {T : Nat → Bool} {σ σ' : Mem} (h : InX Y T σ) (h1 : ∀ o, o ≠ 3 → ¬ (24 ≤ o ∧ o ≤ 27) → σ'.1 o = σ.1 o) (h2 : ∀ o, o ≠ 23 → σ'.2 o = σ.2 o) : InX Y T σ' := by
  refine ⟨xs_cong (h1 1 (by decide) (by decide)) (h1 18 (by decide) (by decide)) (h1 19 (by decide) (by decide)) (h1 20 (by decide) (by decide)) (h1 21 (by decide) (by decide)) (h2 1 (by decide)) h.1, ?_, by rw [h2 2 (by decide)]; exact h.2.2⟩
  have := h.2.1
  unfold XLd at this ⊢
  rw [h1 22 (by decide) (by decide), h2 2 (by decide)]
  exact this
theorem spr_no {Y : Yd} {g i p m : Nat} {S : BS} (h : gsF Y (S.2 i).1 p = false) : spr Y g i p (m + 1) S = spr Y g i (p + 1) m S := by
  simp only [spr, h]
  rfl
theorem spr_fnd {Y : Yd} {g i p m : Nat} {S : BS} (h : gsF Y (S.2 i).1 p = true) (h2 : hgt (pp Y T0 (S.2 i).1 p) = some g) : spr Y g i p (m + 1) S = (1, S, p) := by
  simp only [spr, h, h2, if_true]
theorem spr_ful {Y : Yd} {g i p m : Nat} {S : BS} (h : gsF Y (S.2 i).1 p = true) (h2 : ¬ hgt (pp Y T0 (S.2 i).1 p) = some g) (h3 : addS Y S (pp Y T0 (S.2 i).1 p).1 i p = none) : spr Y g i p (m + 1) S = (2, S, 0) := by
  simp only [spr, h, h3, if_true, if_neg h2]
theorem spr_add {Y : Yd} {g i p m : Nat} {S S' : BS} (h : gsF Y (S.2 i).1 p = true) (h2 : ¬ hgt (pp Y T0 (S.2 i).1 p) = some g) (h3 : addS Y S (pp Y T0 (S.2 i).1 p).1 i p = some S') : spr Y g i p (m + 1) S = spr Y g i (p + 1) m S' := by
  simp only [spr, h, h3, if_true, if_neg h2]
theorem go_x {Y : Yd} (hY : WFY Y) {g i : Nat} (hg2 : g < 2) {D : Dy} (hD : WFD Y D) {y : Int64} (hy : EncX Y D y) : ∀ (m b d f1 f2 : Nat) (S : BS) (σ : Mem), 4 * b + d + m = 4 * db Y → b < db Y → d < 4 → db Y ≤ b + f1 → 4 < d + f2 → WfS Y S → i < S.1 → (S.2 i).1 = D → BfX Y S σ → InX Y T0 σ → ∃ (v : Int32) (σ' : Mem), FX4_goOnFrom_38 (FX4_goOnFrom_23 f1) f2 σ (nI i) (nI g) y (nI b) (nI d) = some (v, σ') ∧ InX Y T0 σ' ∧ KpB σ σ' ∧ WfS Y (spr Y g i (4 * b + d) m S).2.1 ∧ S.1 ≤ (spr Y g i (4 * b + d) m S).2.1.1 ∧ ((spr Y g i (4 * b + d) m S).1 = 0 ∧ v = 0 ∧ BfX Y (spr Y g i (4 * b + d) m S).2.1 σ' ∨ (spr Y g i (4 * b + d) m S).1 = 1 ∧ FoX (spr Y g i (4 * b + d) m S).2.1 i (spr Y g i (4 * b + d) m S).2.2 v σ' ∨ (spr Y g i (4 * b + d) m S).1 = 2 ∧ v = -5) := by
  have h6 := hY.2.1
  intro m
  induction m with
  | zero => intro b d f1 f2 S σ h1 h2; omega
  | succ m ih =>
    intro b d f1 f2 S σ hm hb hd hf1 hf2 hS hi hE hB hI
    obtain ⟨f, rfl⟩ : ∃ f, f2 = f + 1 := ⟨f2 - 1, by omega⟩
    obtain ⟨σ1, g1, g2, g3, g4, g5, g6, g7, g8, g9⟩ := gox hY (t0_ok Y) hD hI hy hb hd
    have hpp : pp Y T0 D (4 * b + d) = pushD Y T0 D b d := by show pushD Y T0 D ((4 * b + d) / 4) ((4 * b + d) % 4) = _; rw [show (4 * b + d) / 4 = b by omega, show (4 * b + d) % 4 = d by omega]
    have nxt_ : ∀ (S2 : BS) (σ2 : Mem), WfS Y S2 → S.1 ≤ S2.1 → (S2.2 i).1 = D → BfX Y S2 σ2 → InX Y T0 σ2 → KpB σ σ2 → ∃ (v : Int32) (σ' : Mem), FX4_goOnFrom_38 (FX4_goOnFrom_23 f1) f σ2 (nI i) (nI g) y (nI b) (nI (d + 1)) = some (v, σ') ∧ InX Y T0 σ' ∧ KpB σ σ' ∧ WfS Y (spr Y g i (4 * b + d + 1) m S2).2.1 ∧ S.1 ≤ (spr Y g i (4 * b + d + 1) m S2).2.1.1 ∧ ((spr Y g i (4 * b + d + 1) m S2).1 = 0 ∧ v = 0 ∧ BfX Y (spr Y g i (4 * b + d + 1) m S2).2.1 σ' ∨ (spr Y g i (4 * b + d + 1) m S2).1 = 1 ∧ FoX (spr Y g i (4 * b + d + 1) m S2).2.1 i (spr Y g i (4 * b + d + 1) m S2).2.2 v σ' ∨ (spr Y g i (4 * b + d + 1) m S2).1 = 2 ∧ v = -5) := by
      intro S2 σ2 hS2 hle hE2 hB2 hI2 hK2
      by_cases hd3 : d + 1 < 4
      · obtain ⟨v, σ', r1, r2, r3, r4, r5, r6⟩ := ih b (d + 1) f1 f S2 σ2 (by omega) hb hd3 hf1 (by omega) hS2 (by omega) hE2 hB2 hI2
        exact ⟨v, σ', r1, r2, kpb_trans hK2 r3, r4, Nat.le_trans hle r5, r6⟩
      · obtain ⟨f', rfl⟩ : ∃ f', f = f' + 1 := ⟨f - 1, by omega⟩
        obtain ⟨f0, rfl⟩ : ∃ f0, f1 = f0 + 1 := ⟨f1 - 1, by omega⟩
        have hde : d + 1 = 4 := by omega
        have e1 : FX4_goOnFrom_38 (FX4_goOnFrom_23 (f0 + 1)) (f' + 1) σ2 (nI i) (nI g) y (nI b) (nI (d + 1)) = FX4_goOnFrom_23 (f0 + 1) σ2 (nI i) (nI g) y (nI (b + 1)) := by
          show BX4_goOnFrom_38 _ _ σ2 _ _ y _ (nI (d + 1)) = _
          unfold BX4_goOnFrom_38
          rw [hde, if_pos (show (4 : Int32) ≤ nI 4 by decide), nm_eq, nI_1]
        rw [e1]
        by_cases hb1 : b + 1 < db Y
        · have e2 : FX4_goOnFrom_23 (f0 + 1) σ2 (nI i) (nI g) y (nI (b + 1)) = FX4_goOnFrom_38 (FX4_goOnFrom_23 f0) FU σ2 (nI i) (nI g) y (nI (b + 1)) (nI 0) := by
            show BX4_goOnFrom_23 (FX4_goOnFrom_23 f0) σ2 _ _ y _ = _
            unfold BX4_goOnFrom_23
            rw [hI2.1.2.2.1, if_neg (nI_ge hb1 (by omega))]
            rfl
          rw [e2]
          obtain ⟨v, σ', r1, r2, r3, r4, r5, r6⟩ := ih (b + 1) 0 f0 FU S2 σ2 (by omega) hb1 (by omega) (by omega) (by show 4 < 0 + 10000000; omega) hS2 (by omega) hE2 hB2 hI2
          rw [show 4 * (b + 1) + 0 = 4 * b + d + 1 by omega] at r4 r5 r6
          exact ⟨v, σ', r1, r2, kpb_trans hK2 r3, r4, Nat.le_trans hle r5, r6⟩
        · have hm0 : m = 0 := by omega
          subst hm0
          refine ⟨0, σ2, ?_, hI2, hK2, hS2, hle, .inl ⟨rfl, rfl, hB2⟩⟩
          show BX4_goOnFrom_23 (FX4_goOnFrom_23 f0) σ2 _ _ y _ = _
          unfold BX4_goOnFrom_23
          rw [hI2.1.2.2.1, if_pos (nI_le (by omega) (by omega))]
    have un : FX4_goOnFrom_38 (FX4_goOnFrom_23 f1) (f + 1) σ (nI i) (nI g) y (nI b) (nI d) = BX4_goOnFrom_38 (FX4_goOnFrom_23 f1) (FX4_goOnFrom_38 (FX4_goOnFrom_23 f1) f) σ (nI i) (nI g) y (nI b) (nI d) := rfl
    have hpn : ∀ σ2 : Mem, FX8_pushNumber σ2 (nI b) (nI d) = some (nI (num (4 * b + d)), σ2) := fun σ2 => by
      unfold FX8_pushNumber
      rw [show (10 : Int32) * nI b + nI d = nI (num (4 * b + d)) by rw [show (10 : Int32) = nI 10 from rfl, pk_mul, nI_add, num_eq hd]]
    have hgs : gsF Y (S.2 i).1 (4 * b + d) = anyT Y (pushD Y T0 D b d).2.1 := by
      rw [hE]
      unfold gsF
      rw [hpp]
    have hpe : pp Y T0 (S.2 i).1 (4 * b + d) = pushD Y T0 D b d := by rw [hE, hpp]
    rw [un]
    unfold BX4_goOnFrom_38
    rw [if_neg (show ¬ (4 : Int32) ≤ nI d from nI_ge (b := 4) hd (by decide)), g1, bi_some]
    have hB1 := bfx_kp hB g3
    have h1 := hgt_1 (r := pushD Y T0 D b d) hg2 (fun q hq => (g9 q hq).2)
    rw [← g7] at h1
    cases ha : anyT Y (pushD Y T0 D b d).2.1
    · rw [if_neg (show ¬ false = true by decide), if_pos rfl, nm_eq, nI_1, spr_no (hgs.trans ha)]
      exact nxt_ S σ1 hS (Nat.le_refl _) hE hB1 g2 (kpb_x g3)
    · rw [if_pos rfl, if_neg (show ¬ (1 : Int32) = 0 by decide)]
      by_cases e1 : hgt (pushD Y T0 D b d) = some g
      · rw [if_pos (h1.mpr e1), hpn, bi_some, spr_fnd (hgs.trans ha) (by rw [hpe]; exact e1)]
        obtain ⟨σ2, w1, w2, w3, w4, w5⟩ := wr_eq hS hB1 (p := 4 * b + d) hi
        rw [w1, bv_some, w2]
        refine ⟨_, σ2, rfl, inx_kpb g2 (fun o h3 h26 => w4 o h3 (by omega)) (fun o _ => by rw [w5]), kpb_trans (kpb_x g3) ⟨fun o _ _ h3 h26 => w4 o h3 (by omega), fun o _ _ => by rw [w5]⟩, hS, Nat.le_refl _, .inr (.inl ⟨rfl, rfl, w2, w3⟩)⟩
      · rw [if_neg (fun z => e1 (h1.mp z)), hpn, bi_some]
        obtain ⟨v, σ2, n1, n2, n3, n4, n5⟩ := note_x hY hS hB1 g8 g4 (i0 := i) (p := 4 * b + d) (o := nI i) (b := nI (num (4 * b + d))) (fun _ => ⟨rfl, rfl⟩)
        have hI2 : InX Y T0 σ2 := inx_kpb g2 (fun o h3 h4 => n4 o h3 (by omega) (by omega) (by omega)) n5
        have hK2 : KpB σ σ2 := kpb_trans (kpb_x g3) ⟨fun o _ _ h3 h4 => n4 o h3 (by omega) (by omega) (by omega), fun o _ h23 => n5 o h23⟩
        rw [n1, bi_some]
        cases hadd : addS Y S (pushD Y T0 D b d).1 i (4 * b + d) with
        | none =>
          obtain ⟨v0, _⟩ := n2 hadd
          rw [v0, if_pos rfl, spr_ful (hgs.trans ha) (by rw [hpe]; exact e1) (by rw [hpe]; exact hadd)]
          exact ⟨-5, σ2, rfl, hI2, hK2, hS, Nat.le_refl _, .inr (.inr ⟨rfl, rfl⟩)⟩
        | some S' =>
          obtain ⟨v1, hB2⟩ := n3 S' hadd
          obtain ⟨a1, a2, a3⟩ := wfs_add hS g8 (.inl hi) (.inl (by omega)) hadd
          rw [v1, if_neg (show ¬ (1 : Int32) = 0 by decide), nm_eq, nI_1, spr_add (hgs.trans ha) (by rw [hpe]; exact e1) (by rw [hpe]; exact hadd)]
          exact nxt_ S' σ2 a1 a2 (by rw [a3 i hi]; exact hE) hB2 hI2 hK2

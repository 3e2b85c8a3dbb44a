/-! ===== the search finds the first row of the fewest pushes ===== -/
section SR
variable {Y : Yd} {g : Nat} {D : Dy}
/-- rows ahead of F are covered, none of them comes home -/
def Cov (Y : Yd) (g : Nat) (D : Dy) (N : Nat) (W : Nat → List Nat) (F : Nat) : Prop := (∀ v, ndW Y g D v → keyW (4 * db Y) v < F → ∃ j, j < N ∧ keyW (4 * db Y) (W j) ≤ keyW (4 * db Y) v ∧ EqD Y (stW Y D (W j)) (stW Y D v)) ∧ ∀ v, hiW Y g D v → F ≤ keyW (4 * db Y) v
def EI (Y : Yd) (g : Nat) (D : Dy) (S : BS) (W : Nat → List Nat) : Prop := S.1 ≤ 1500 ∧ W 0 = [] ∧ (∀ j, j < S.1 → (S.2 j).1 = stW Y D (W j) ∧ ndW Y g D (W j) ∧ (0 < j → (S.2 j).2.1 < j ∧ W j = (S.2 j).2.2 :: W (S.2 j).2.1)) ∧ (∀ j k, j < k → k < S.1 → keyW (4 * db Y) (W j) < keyW (4 * db Y) (W k)) ∧ ∀ j k, j < k → k < S.1 → ¬ EqD Y (stW Y D (W j)) (stW Y D (W k))
theorem ei_le {S : BS} {W : Nat → List Nat} (h : EI Y g D S W) {j k : Nat} (hj : j < S.1) (hk : k < S.1) (hl : keyW (4 * db Y) (W j) < keyW (4 * db Y) (W k)) : j < k := by
  rcases Nat.lt_or_ge j k with z | z
  · exact z
  · exfalso
    rcases Nat.lt_or_ge k j with q | q
    · have := h.2.2.2.1 k j q hj; omega
    · rw [show j = k by omega] at hl; omega
/-- on to the next entry -/
theorem cov_next (hY : WFY Y) (hW : WFD Y D) {S : BS} {W : Nat → List Nat} (hE : EI Y g D S W) {i F' : Nat} (hi : i < S.1) (hC : Cov Y g D S.1 W (4 * db Y * keyW (4 * db Y) (W i) + 4 * db Y + 1)) (hF : i + 1 < S.1 → F' ≤ 4 * db Y * keyW (4 * db Y) (W (i + 1)) + 1) : Cov Y g D S.1 W F' := by
  have cover : ∀ v, ndW Y g D v → keyW (4 * db Y) v < F' → ∃ j, j < S.1 ∧ keyW (4 * db Y) (W j) ≤ keyW (4 * db Y) v ∧ EqD Y (stW Y D (W j)) (stW Y D v) := by
    intro v
    induction v with
    | nil => intro hv _; exact hC.1 [] hv (by show 0 < _; omega)
    | cons q u ih =>
      intro hv hl
      by_cases z : keyW (4 * db Y) (q :: u) < 4 * db Y * keyW (4 * db Y) (W i) + 4 * db Y + 1
      · exact hC.1 _ hv z
      have hq := hv.2.1
      change 4 * db Y * keyW (4 * db Y) u + q + 1 < F' at hl
      change ¬ (4 * db Y * keyW (4 * db Y) u + q + 1 < _) at z
      obtain ⟨j, j1, j2, j3⟩ := ih hv.1 (by
        have : 1 * keyW (4 * db Y) u ≤ 4 * db Y * keyW (4 * db Y) u := Nat.mul_le_mul_right _ (by omega)
        omega)
      have hji : j ≤ i := by
        by_cases w : i + 1 < S.1
        · have h1 := hF w
          have h2 : 4 * db Y * keyW (4 * db Y) u < 4 * db Y * keyW (4 * db Y) (W (i + 1)) := by omega
          have h3 := Nat.lt_of_mul_lt_mul_left h2
          have := ei_le hE j1 w (by omega)
          omega
        · omega
      have hkj : keyW (4 * db Y) (W j) ≤ keyW (4 * db Y) (W i) := by
        rcases Nat.lt_or_ge j i with w | w
        · exact Nat.le_of_lt (hE.2.2.2.1 j i w hi)
        · rw [show j = i by omega]; exact Nat.le_refl _
      have hnj := (hE.2.2.1 j j1).2.1
      obtain ⟨s1, s2, s3⟩ := step_cong hY (st_wf hY hW _ hnj) j3 hq
      have hm := Nat.mul_le_mul_left (4 * db Y) hkj
      have hm2 := Nat.mul_le_mul_left (4 * db Y) j2
      obtain ⟨j', k1, k2, k3⟩ := hC.1 (q :: W j) ⟨hnj, hq, by rw [s1]; exact hv.2.2.1, by rw [s2]; exact hv.2.2.2⟩ (by
        show 4 * db Y * keyW (4 * db Y) (W j) + q + 1 < _
        omega)
      refine ⟨j', k1, ?_, eqW_t k3 s3⟩
      change _ ≤ 4 * db Y * keyW (4 * db Y) (W j) + q + 1 at k2
      show _ ≤ 4 * db Y * keyW (4 * db Y) u + q + 1
      omega
  refine ⟨cover, fun v hv => ?_⟩
  cases v with
  | nil => exact hv.elim
  | cons q u =>
    rcases Nat.lt_or_ge (keyW (4 * db Y) (q :: u)) F' with hl | hl
    · exfalso
      have hq := hv.2.1
      change 4 * db Y * keyW (4 * db Y) u + q + 1 < F' at hl
      obtain ⟨j, j1, j2, j3⟩ := cover u hv.1 (by
        have : 1 * keyW (4 * db Y) u ≤ 4 * db Y * keyW (4 * db Y) u := Nat.mul_le_mul_right _ (by omega)
        omega)
      have hji : j ≤ i := by
        by_cases w : i + 1 < S.1
        · have h1 := hF w
          have h2 : 4 * db Y * keyW (4 * db Y) u < 4 * db Y * keyW (4 * db Y) (W (i + 1)) := by omega
          have h3 := Nat.lt_of_mul_lt_mul_left h2
          have := ei_le hE j1 w (by omega)
          omega
        · omega
      have hkj : keyW (4 * db Y) (W j) ≤ keyW (4 * db Y) (W i) := by
        rcases Nat.lt_or_ge j i with w | w
        · exact Nat.le_of_lt (hE.2.2.2.1 j i w hi)
        · rw [show j = i by omega]; exact Nat.le_refl _
      have hnj := (hE.2.2.1 j j1).2.1
      obtain ⟨s1, s2, s3⟩ := step_cong hY (st_wf hY hW _ hnj) j3 hq
      have hm := Nat.mul_le_mul_left (4 * db Y) hkj
      have h9 := hC.2 (q :: W j) ⟨hnj, hq, by rw [s1]; exact hv.2.2.1, by rw [s2]; exact hv.2.2.2⟩
      change _ ≤ 4 * db Y * keyW (4 * db Y) (W j) + q + 1 at h9
      omega
    · exact hl
/-- what one entry's pushes come to -/
def SprR (Y : Yd) (g : Nat) (D : Dy) (i F : Nat) (N : Nat) (W : Nat → List Nat) (r : Nat × BS × Nat) : Prop := (r.1 = 0 ∧ ∃ W', EI Y g D r.2.1 W' ∧ N ≤ r.2.1.1 ∧ (∀ j, j < N → W' j = W j) ∧ Cov Y g D r.2.1.1 W' F ∧ ∀ j, j < r.2.1.1 → keyW (4 * db Y) (W' j) < F) ∨ (r.1 = 1 ∧ ∃ W', EI Y g D r.2.1 W' ∧ i < r.2.1.1 ∧ hiW Y g D (r.2.2 :: W' i) ∧ ∀ v, hiW Y g D v → keyW (4 * db Y) (r.2.2 :: W' i) ≤ keyW (4 * db Y) v) ∨ (r.1 = 2 ∧ ∀ v, hiW Y g D v → 3 < v.length)
theorem spr_ok (hY : WFY Y) (h3 : db Y ≤ 3) (hW : WFD Y D) (hD : DisD Y D) (i : Nat) : ∀ (m p : Nat) (S : BS) (W : Nat → List Nat), p + m = 4 * db Y → i < S.1 → EI Y g D S W → Cov Y g D S.1 W (4 * db Y * keyW (4 * db Y) (W i) + p + 1) → (∀ j, j < S.1 → keyW (4 * db Y) (W j) < 4 * db Y * keyW (4 * db Y) (W i) + p + 1) → SprR Y g D i (4 * db Y * keyW (4 * db Y) (W i) + 4 * db Y + 1) S.1 W (spr Y g i p m S) := by
  intro m
  induction m with
  | zero =>
    intro p S W hp hi hE hC hk
    have : p = 4 * db Y := by omega
    subst this
    exact .inl ⟨rfl, W, hE, Nat.le_refl _, fun _ _ => rfl, hC, hk⟩
  | succ m ih =>
    intro p S W hp hi hE hC hk
    have hpB : p < 4 * db Y := by omega
    obtain ⟨e1, e2, e3⟩ := hE.2.2.1 i hi
    have hst : (pp Y T0 (S.2 i).1 p).1 = stW Y D (p :: W i) := by rw [e1]; rfl
    have only : ∀ v, (∀ x ∈ v, x < 4 * db Y) → keyW (4 * db Y) v = 4 * db Y * keyW (4 * db Y) (W i) + p + 1 → v = p :: W i := fun v hv hkv => key_inj v (p :: W i) hv (fun x hx => by
      rcases List.mem_cons.mp hx with z | z
      · rw [z]; exact hpB
      · exact nd_lt _ e2 x z) hkv
    unfold spr
    by_cases hg : gsF Y (S.2 i).1 p = true
    · rw [if_pos hg]
      by_cases hh : hgt (pp Y T0 (S.2 i).1 p) = some g
      · rw [if_pos hh]
        refine .inr (.inl ⟨rfl, W, hE, hi, ⟨e2, hpB, by rw [← e1]; exact hg, by rw [← e1]; exact hh⟩, fun v hv => ?_⟩)
        exact hC.2 v hv
      · rw [if_neg hh]
        have hn : ndW Y g D (p :: W i) := ⟨e2, hpB, by rw [← e1]; exact hg, by rw [← e1]; exact hh⟩
        have hhit : ∀ v, hiW Y g D v → 4 * db Y * keyW (4 * db Y) (W i) + p + 2 ≤ keyW (4 * db Y) v := fun v hv => by
          have h1 := hC.2 v hv
          rcases Nat.lt_or_ge (4 * db Y * keyW (4 * db Y) (W i) + p + 1) (keyW (4 * db Y) v) with z | z
          · exact z
          · have := only v (hi_lt v hv) (by omega)
            rw [this] at hv
            exact absurd hv.2.2.2 hn.2.2.2
        unfold addS
        by_cases hs : seen Y S (pp Y T0 (S.2 i).1 p).1
        · rw [if_pos hs]
          show SprR Y g D i _ S.1 W (spr Y g i (p + 1) m S)
          refine ih (p + 1) S W (by omega) hi hE ⟨fun v hv hl => ?_, fun v hv => hhit v hv⟩ fun j hj => by have := hk j hj; omega
          by_cases z : keyW (4 * db Y) v < 4 * db Y * keyW (4 * db Y) (W i) + p + 1
          · exact hC.1 v hv z
          · have hve := only v (nd_lt v hv) (by omega)
            obtain ⟨j, j1, j2⟩ := hs
            refine ⟨j, j1, by have := hk j j1; omega, ?_⟩
            rw [hve, ← hst, ← (hE.2.2.1 j j1).1]
            exact j2
        · rw [if_neg hs]
          have hun : ∀ j, j < S.1 → ¬ EqD Y (stW Y D (W j)) (stW Y D (p :: W i)) := fun j hj z => hs ⟨j, hj, by rw [(hE.2.2.1 j hj).1, hst]; exact z⟩
          by_cases h15 : S.1 = 1500
          · rw [if_pos h15]
            refine .inr (.inr ⟨rfl, fun v hv => ?_⟩)
            let W1 : Nat → List Nat := fun j => if j = 1500 then p :: W i else W j
            have w1 : W1 1500 = p :: W i := if_pos rfl
            have w2 : ∀ j, j < 1500 → W1 j = W j := fun j hj => if_neg (by omega)
            have hk1 : keyW (4 * db Y) (p :: W i) = 4 * db Y * keyW (4 * db Y) (W i) + p + 1 := rfl
            have cl : 3 < (W1 1500).length := by
              refine cnt_len hY h3 hW hD (g := g) (W := W1) (fun j hj => ?_) (fun j hj => ?_) fun j hj u hu hul hue => ?_
              · rcases Nat.lt_or_ge j 1500 with z | z
                · rw [w2 j z]; exact (hE.2.2.1 j (by omega)).2.1
                · rw [show j = 1500 by omega, w1]; exact hn
              · rw [w2 j hj]
                rcases Nat.lt_or_ge (j + 1) 1500 with z | z
                · rw [w2 _ z]; exact hE.2.2.2.1 j (j + 1) (by omega) (by omega)
                · rw [show j + 1 = 1500 by omega, w1, hk1]; exact hk j (by omega)
              · rcases Nat.lt_or_ge j 1500 with z | z
                · rw [w2 j z] at hul hue
                  obtain ⟨j', k1, k2, k3⟩ := hC.1 u hu (by have := hk j (by omega); omega)
                  have hlt := ei_le hE (j := j') (k := j) k1 (by omega) (by omega)
                  exact hE.2.2.2.2 j' j hlt (by omega) (eqW_t k3 hue)
                · rw [show j = 1500 by omega, w1] at hul hue
                  obtain ⟨j', k1, k2, k3⟩ := hC.1 u hu hul
                  exact hun j' k1 (eqW_t k3 hue)
            rw [w1] at cl
            have := len_key (B := 4 * db Y) (nd_lt _ hn) (hi_lt v hv) (by rw [hk1]; exact hC.2 v hv)
            omega
          · rw [if_neg h15]
            have hlt : S.1 < 1500 := by have := hE.1; omega
            let W1 : Nat → List Nat := fun j => if j = S.1 then p :: W i else W j
            have w1 : W1 S.1 = p :: W i := if_pos rfl
            have w2 : ∀ j, j < S.1 → W1 j = W j := fun j hj => if_neg (by omega)
            have hk1 : keyW (4 * db Y) (p :: W i) = 4 * db Y * keyW (4 * db Y) (W i) + p + 1 := rfl
            have hE1 : EI Y g D (S.1 + 1, fun j => if j = S.1 then ((pp Y T0 (S.2 i).1 p).1, i, p) else S.2 j) W1 := by
              refine ⟨by show S.1 + 1 ≤ 1500; omega, by rw [w2 0 (by omega)]; exact hE.2.1, fun j hj => ?_, fun j k hjk hk' => ?_, fun j k hjk hk' => ?_⟩
              · have hj : j < S.1 + 1 := hj
                rcases Nat.lt_or_ge j S.1 with z | z
                · show (if j = S.1 then _ else S.2 j).1 = _ ∧ _ ∧ (0 < j → (if j = S.1 then ((pp Y T0 (S.2 i).1 p).1, i, p) else S.2 j).2.1 < j ∧ W1 j = (if j = S.1 then ((pp Y T0 (S.2 i).1 p).1, i, p) else S.2 j).2.2 :: W1 (if j = S.1 then ((pp Y T0 (S.2 i).1 p).1, i, p) else S.2 j).2.1)
                  rw [if_neg (show ¬ j = S.1 by omega), w2 j z]
                  obtain ⟨a, b, c⟩ := hE.2.2.1 j z
                  refine ⟨a, b, fun h0 => ?_⟩
                  obtain ⟨c1, c2⟩ := c h0
                  exact ⟨c1, by rw [w2 _ (by omega)]; exact c2⟩
                · have : j = S.1 := by omega
                  subst this
                  show (if S.1 = S.1 then _ else S.2 S.1).1 = _ ∧ _ ∧ (0 < S.1 → (if S.1 = S.1 then ((pp Y T0 (S.2 i).1 p).1, i, p) else S.2 S.1).2.1 < S.1 ∧ W1 S.1 = (if S.1 = S.1 then ((pp Y T0 (S.2 i).1 p).1, i, p) else S.2 S.1).2.2 :: W1 (if S.1 = S.1 then ((pp Y T0 (S.2 i).1 p).1, i, p) else S.2 S.1).2.1)
                  rw [if_pos rfl, w1]
                  exact ⟨hst, hn, fun _ => ⟨hi, by rw [w2 i hi]⟩⟩
              · have hk' : k < S.1 + 1 := hk'
                rw [w2 j (by omega)]
                rcases Nat.lt_or_ge k S.1 with z | z
                · rw [w2 k z]; exact hE.2.2.2.1 j k hjk z
                · rw [show k = S.1 by omega, w1, hk1]; exact hk j (by omega)
              · have hk' : k < S.1 + 1 := hk'
                rw [w2 j (by omega)]
                rcases Nat.lt_or_ge k S.1 with z | z
                · rw [w2 k z]; exact hE.2.2.2.2 j k hjk z
                · rw [show k = S.1 by omega, w1]; exact hun j (by omega)
            have r := ih (p + 1) (S.1 + 1, fun j => if j = S.1 then ((pp Y T0 (S.2 i).1 p).1, i, p) else S.2 j) W1 (by omega) (by show i < S.1 + 1; omega) hE1 (by
              rw [w2 i hi]
              refine ⟨fun v hv hl => ?_, fun v hv => hhit v hv⟩
              by_cases z : keyW (4 * db Y) v < 4 * db Y * keyW (4 * db Y) (W i) + p + 1
              · obtain ⟨j, j1, j2, j3⟩ := hC.1 v hv z
                exact ⟨j, by show j < S.1 + 1; omega, by rw [w2 j j1]; exact j2, by rw [w2 j j1]; exact j3⟩
              · have hve := only v (nd_lt v hv) (by omega)
                exact ⟨S.1, Nat.lt_succ_self _, by rw [w1, hve]; exact Nat.le_refl _, by rw [w1, hve]; exact eqW_r⟩) (fun j hj => by
              rw [w2 i hi]
              have hj : j < S.1 + 1 := hj
              rcases Nat.lt_or_ge j S.1 with z | z
              · rw [w2 j z]; have := hk j z; omega
              · rw [show j = S.1 by omega, w1, hk1]; omega)
            rw [w2 i hi] at r
            rcases r with ⟨r1, W', r2, r3, r4, r5, r6⟩ | r | r
            · exact .inl ⟨r1, W', r2, Nat.le_of_succ_le r3, fun j hj => (r4 j (by show j < S.1 + 1; omega)).trans (w2 j hj), r5, r6⟩
            · exact .inr (.inl r)
            · exact .inr (.inr r)
    · rw [if_neg hg]
      refine ih (p + 1) S W (by omega) hi hE ⟨fun v hv hl => ?_, fun v hv => ?_⟩ fun j hj => by have := hk j hj; omega
      · by_cases z : keyW (4 * db Y) v < 4 * db Y * keyW (4 * db Y) (W i) + p + 1
        · exact hC.1 v hv z
        · have hve := only v (nd_lt v hv) (by omega)
          rw [hve] at hv
          exact absurd (by rw [e1]; exact hv.2.2.1) hg
      · have h1 := hC.2 v hv
        rcases Nat.lt_or_ge (4 * db Y * keyW (4 * db Y) (W i) + p + 1) (keyW (4 * db Y) v) with z | z
        · show _ + (p + 1) + 1 ≤ _; omega
        · have := only v (hi_lt v hv) (by omega)
          rw [this] at hv
          exact absurd (by rw [e1]; exact hv.2.2.1) hg
def BfsR (Y : Yd) (g : Nat) (D : Dy) (r : Nat × BS × Nat × Nat) : Prop := (r.1 = 0 ∧ ∀ v, ¬ hiW Y g D v) ∨ (r.1 = 1 ∧ ∃ W', EI Y g D r.2.1 W' ∧ r.2.2.1 < r.2.1.1 ∧ hiW Y g D (r.2.2.2 :: W' r.2.2.1) ∧ ∀ v, hiW Y g D v → keyW (4 * db Y) (r.2.2.2 :: W' r.2.2.1) ≤ keyW (4 * db Y) v) ∨ (r.1 = 2 ∧ ∀ v, hiW Y g D v → 3 < v.length)
theorem bfs_ok (hY : WFY Y) (h3 : db Y ≤ 3) (hW : WFD Y D) (hD : DisD Y D) : ∀ (m i : Nat) (S : BS) (W : Nat → List Nat), i + m = 1501 → i < S.1 → EI Y g D S W → Cov Y g D S.1 W (4 * db Y * keyW (4 * db Y) (W i) + 0 + 1) → (∀ j, j < S.1 → keyW (4 * db Y) (W j) < 4 * db Y * keyW (4 * db Y) (W i) + 0 + 1) → BfsR Y g D (bfs Y g m i S) := by
  intro m
  induction m with
  | zero => intro i S W hi hi2 hE; have := hE.1; omega
  | succ m ih =>
    intro i S W hi hi2 hE hC hk
    unfold bfs
    rw [if_neg (by omega)]
    have r := spr_ok hY h3 hW hD (g := g) i (4 * db Y) 0 S W (Nat.zero_add _) hi2 hE hC hk
    rcases r with ⟨r1, W', r2, r3, r4, r5, r6⟩ | ⟨r1, r⟩ | ⟨r1, r⟩
    · rw [if_pos r1]
      have hwi := r4 i hi2
      rw [← hwi] at r5 r6
      by_cases z : i + 1 < (spr Y g i 0 (4 * db Y) S).2.1.1
      · refine ih (i + 1) _ W' (by omega) z r2 (cov_next hY hW r2 (by omega) r5 fun _ => Nat.le_refl _) fun j hj => ?_
        have h1 := r6 j hj
        have h2 := r2.2.2.2.1 i (i + 1) (by omega) z
        have h3 : 4 * db Y * (keyW (4 * db Y) (W' i) + 1) ≤ 4 * db Y * keyW (4 * db Y) (W' (i + 1)) := Nat.mul_le_mul_left _ h2
        rw [Nat.mul_succ] at h3
        omega
      · have hno : ∀ v, ¬ hiW Y g D v := fun v hv => by
          have := (cov_next hY hW r2 (F' := keyW (4 * db Y) v + 1) (show i < _ by omega) r5 fun q => absurd q z).2 v hv
          omega
        cases m with
        | zero => exact .inl ⟨rfl, hno⟩
        | succ m =>
          unfold bfs
          rw [if_pos (by omega)]
          exact .inl ⟨rfl, hno⟩
    · rw [if_neg (by rw [r1]; decide)]
      exact .inr (.inl ⟨r1, r⟩)
    · rw [if_neg (by rw [r1]; decide)]
      exact .inr (.inr ⟨r1, r⟩)
theorem ei_1 : EI Y g D (S1 D) (fun _ => []) := by
  refine ⟨by show 1 ≤ 1500; omega, rfl, fun j hj => ?_, fun j k hjk hk => ?_, fun j k hjk hk => ?_⟩
  · have hj : j < 1 := hj
    have : j = 0 := by omega
    subst this
    exact ⟨rfl, trivial, fun h => absurd h (Nat.lt_irrefl 0)⟩
  · have hk : k < 1 := hk
    omega
  · have hk : k < 1 := hk
    omega
theorem few_ok (hY : WFY Y) (h3 : db Y ≤ 3) (hW : WFD Y D) (hD : DisD Y D) : BfsR Y g D (bfs Y g 1501 0 (S1 D)) := by
  refine bfs_ok hY h3 hW hD 1501 0 (S1 D) (fun _ => []) rfl (by show 0 < 1; omega) ei_1 ⟨fun v hv hl => ⟨0, by show 0 < 1; omega, ?_, ?_⟩, fun v hv => ?_⟩ fun j hj => by show 0 < _; omega
  · exact Nat.zero_le _
  · have hl : keyW (4 * db Y) v < 4 * db Y * 0 + 0 + 1 := hl
    cases v with
    | nil => exact eqW_r
    | cons q u => change 4 * db Y * keyW (4 * db Y) u + q + 1 < _ at hl; omega
  · cases v with
    | nil => exact hv.elim
    | cons q u => show 4 * db Y * 0 + 0 + 1 ≤ 4 * db Y * keyW (4 * db Y) u + q + 1; omega
theorem rev_ok {S : BS} {W : Nat → List Nat} (hE : EI Y g D S W) : ∀ (f i p : Nat), i < S.1 → i ≤ f → revP S.2 f i p = p :: W i := by
  intro f
  induction f with
  | zero =>
    intro i p hi hf
    rw [show i = 0 by omega, hE.2.1]; rfl
  | succ f ih =>
    intro i p hi hf
    unfold revP
    by_cases h : i = 0
    · rw [if_pos h, h, hE.2.1]
    · rw [if_neg h]
      obtain ⟨a, b⟩ := (hE.2.2.1 i hi).2.2 (by omega)
      rw [ih _ _ (by omega) (by omega), ← b]
end SR

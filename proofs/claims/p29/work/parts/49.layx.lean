/-! ===== yard: the class lays the cells ===== -/
theorem sL_eq {σ : Mem} {o k : Nat} {v : Int64} : (setL σ o k v).2 o k = v := by rw [setL_s2]; simp [vp_updL]
theorem sL_ne {σ : Mem} {o k q : Nat} {v : Int64} (h : q ≠ k) : (setL σ o k v).2 o q = σ.2 o q := by rw [setL_s2]; simp [vp_updL, h]
def bitsC (f : Nat → Nat) (v c : Nat) (y : Int64) : Prop := ∀ i, bit64 y i = (decide (i < c) && f i == v)
theorem bts_set {f : Nat → Nat} {v c : Nat} {y : Int64} (h : bitsC f v c y) (hc : c < 36) (hv : f c = v) : bitsC f v (c + 1) (y ||| ((1 : Int64) <<< ((nI c).toInt64 &&& 63))) := by
  intro i
  rw [w_or, h i, w_one (by omega)]
  by_cases e : i = c
  · subst e; rw [hv]; simp
  · by_cases h1 : i < c
    · rw [decide_eq_true h1, decide_eq_true (show i < c + 1 by omega), decide_eq_false e, Bool.or_false]
    · rw [decide_eq_false h1, decide_eq_false (show ¬ i < c + 1 by omega), decide_eq_false e]; rfl
theorem bts_keep {f : Nat → Nat} {v c : Nat} {y : Int64} (h : bitsC f v c y) (hv : f c ≠ v) : bitsC f v (c + 1) y := by
  intro i
  rw [h i]
  by_cases e : i = c
  · subst e; rw [beq_false_of_ne hv, Bool.and_false, Bool.and_false]
  · by_cases h1 : i < c
    · rw [decide_eq_true h1, decide_eq_true (show i < c + 1 by omega)]
    · rw [decide_eq_false h1, decide_eq_false (show ¬ i < c + 1 by omega)]
def fg (cd : Nat → Int32) (w i : Nat) : Nat := gN (sgn cd w i)
def LaX (cd : Nat → Int32) (h w c : Nat) (σ : Mem) : Prop := (σ.1 1 4 = nI h ∧ σ.1 1 5 = nI w ∧ σ.1 1 6 = nI (nB cd w c) ∧ σ.1 1 7 = nI (nC cd w c)) ∧ (∀ j, j < nC cd w c → σ.1 20 j = nI ((fl (cq cd w) c).getD j 0)) ∧
  (bitsC (fg cd w) 1 c (σ.2 1 8) ∧ bitsC (fg cd w) 2 c (σ.2 1 9) ∧ bitsC (fg cd w) 4 c (σ.2 1 10) ∧ bitsC (fg cd w) 5 c (σ.2 1 11) ∧ bitsC (fg cd w) 0 c (σ.2 1 12)) ∧
  ∀ k, k < nB cd w c → σ.1 18 k = nI (kN (sgn cd w (bA cd w c k))) ∧ σ.1 19 k = nI (bA cd w c k)
def FrL (σ σ' : Mem) : Prop := (∀ o, o ≠ 1 → o ≠ 18 → o ≠ 19 → o ≠ 20 → σ'.1 o = σ.1 o) ∧ ∀ o, o ≠ 1 → σ'.2 o = σ.2 o
theorem frL_r (σ : Mem) : FrL σ σ := ⟨fun _ _ _ _ _ => rfl, fun _ _ => rfl⟩
theorem frL_t {a b c : Mem} (h1 : FrL a b) (h2 : FrL b c) : FrL a c := ⟨fun o x y z u => (h2.1 o x y z u).trans (h1.1 o x y z u), fun o x => (h2.2 o x).trans (h1.2 o x)⟩
theorem frL_I (σ : Mem) {o : Nat} (k : Nat) (v : Int32) (h : o = 1 ∨ o = 18 ∨ o = 19 ∨ o = 20) : FrL σ (setI σ o k v) := ⟨fun o' a b c d => setI_ne1 (by omega), fun _ _ => rfl⟩
theorem frL_L (σ : Mem) (k : Nat) (v : Int64) : FrL σ (setL σ 1 k v) := ⟨fun _ _ _ _ _ => rfl, fun o h => setL_ne2 h⟩
/-- a sign that is no block, no crack: its bits alone -/
theorem ls_bits {cd : Nat → Int32} {h w c : Nat} {σ σ' : Mem} (H : LaX cd h w c σ) (h1 : σ'.1 = σ.1) (hB : isB (sgn cd w c) = false) (hC : gN (sgn cd w c) ≠ 3) (hb : bitsC (fg cd w) 1 (c + 1) (σ'.2 1 8) ∧ bitsC (fg cd w) 2 (c + 1) (σ'.2 1 9) ∧ bitsC (fg cd w) 4 (c + 1) (σ'.2 1 10) ∧ bitsC (fg cd w) 5 (c + 1) (σ'.2 1 11) ∧ bitsC (fg cd w) 0 (c + 1) (σ'.2 1 12)) : LaX cd h w (c + 1) σ' := by
  have eB : nB cd w (c + 1) = nB cd w c := by rw [nB_s, hB]; rfl
  have eC : nC cd w (c + 1) = nC cd w c := by rw [nC_s, if_neg hC]; rfl
  refine ⟨?_, fun j hj => ?_, hb, fun k hk => ?_⟩
  · rw [h1, eB, eC]; exact H.1
  · rw [eC] at hj
    rw [h1, fl_old hj]; exact H.2.1 j hj
  · rw [eB] at hk
    have eo : bA cd w (c + 1) k = bA cd w c k := fl_old hk
    rw [h1, eo]; exact H.2.2.2 k hk
theorem lc_wall {cd : Nat → Int32} {h w c : Nat} {σ : Mem} (H : LaX cd h w c σ) (hc : c < 36) (hx : sgn cd w c = 35) : ∃ σ', FX1_layCell σ (nI c) (sgn cd w c) = some σ' ∧ LaX cd h w (c + 1) σ' ∧ FrL σ σ' := by
  have hg : fg cd w c = 1 := by unfold fg; rw [hx]; decide
  refine ⟨setL σ 1 8 ((σ.2 1 8) ||| ((1 : Int64) <<< ((nI c).toInt64 &&& 63))), ?_, ls_bits H rfl (by rw [hx]; decide) (by rw [hx]; decide) ⟨by rw [sL_eq]; exact bts_set H.2.2.1.1 hc hg, by rw [sL_ne (by decide)]; exact bts_keep H.2.2.1.2.1 (by rw [hg]; decide), by rw [sL_ne (by decide)]; exact bts_keep H.2.2.1.2.2.1 (by rw [hg]; decide), by rw [sL_ne (by decide)]; exact bts_keep H.2.2.1.2.2.2.1 (by rw [hg]; decide), by rw [sL_ne (by decide)]; exact bts_keep H.2.2.1.2.2.2.2 (by rw [hg]; decide)⟩, frL_L σ _ _⟩
  unfold FX1_layCell
  rw [hx, nm_eq, if_pos rfl, nm_eq]
theorem lc_ga {cd : Nat → Int32} {h w c : Nat} {σ : Mem} (H : LaX cd h w c σ) (hc : c < 36) (hx : sgn cd w c = 97) : ∃ σ', FX1_layCell σ (nI c) (sgn cd w c) = some σ' ∧ LaX cd h w (c + 1) σ' ∧ FrL σ σ' := by
  have hg : fg cd w c = 4 := by unfold fg; rw [hx]; decide
  refine ⟨setL σ 1 10 ((σ.2 1 10) ||| ((1 : Int64) <<< ((nI c).toInt64 &&& 63))), ?_, ls_bits H rfl (by rw [hx]; decide) (by rw [hx]; decide) ⟨by rw [sL_ne (by decide)]; exact bts_keep H.2.2.1.1 (by rw [hg]; decide), by rw [sL_ne (by decide)]; exact bts_keep H.2.2.1.2.1 (by rw [hg]; decide), by rw [sL_eq]; exact bts_set H.2.2.1.2.2.1 hc hg, by rw [sL_ne (by decide)]; exact bts_keep H.2.2.1.2.2.2.1 (by rw [hg]; decide), by rw [sL_ne (by decide)]; exact bts_keep H.2.2.1.2.2.2.2 (by rw [hg]; decide)⟩, frL_L σ _ _⟩
  unfold FX1_layCell
  rw [hx, nm_eq, if_neg (by decide), if_pos rfl, nm_eq]
theorem lc_gb {cd : Nat → Int32} {h w c : Nat} {σ : Mem} (H : LaX cd h w c σ) (hc : c < 36) (hx : sgn cd w c = 98) : ∃ σ', FX1_layCell σ (nI c) (sgn cd w c) = some σ' ∧ LaX cd h w (c + 1) σ' ∧ FrL σ σ' := by
  have hg : fg cd w c = 5 := by unfold fg; rw [hx]; decide
  refine ⟨setL σ 1 11 ((σ.2 1 11) ||| ((1 : Int64) <<< ((nI c).toInt64 &&& 63))), ?_, ls_bits H rfl (by rw [hx]; decide) (by rw [hx]; decide) ⟨by rw [sL_ne (by decide)]; exact bts_keep H.2.2.1.1 (by rw [hg]; decide), by rw [sL_ne (by decide)]; exact bts_keep H.2.2.1.2.1 (by rw [hg]; decide), by rw [sL_ne (by decide)]; exact bts_keep H.2.2.1.2.2.1 (by rw [hg]; decide), by rw [sL_eq]; exact bts_set H.2.2.1.2.2.2.1 hc hg, by rw [sL_ne (by decide)]; exact bts_keep H.2.2.1.2.2.2.2 (by rw [hg]; decide)⟩, frL_L σ _ _⟩
  unfold FX1_layCell
  rw [hx, nm_eq, if_neg (by decide), if_neg (by decide), if_pos rfl, nm_eq]
theorem lc_sand {cd : Nat → Int32} {h w c : Nat} {σ : Mem} (H : LaX cd h w c σ) (hc : c < 36) (hx : sgn cd w c = 115) : ∃ σ', FX1_layCell σ (nI c) (sgn cd w c) = some σ' ∧ LaX cd h w (c + 1) σ' ∧ FrL σ σ' := by
  have hg : fg cd w c = 2 := by unfold fg; rw [hx]; decide
  refine ⟨setL σ 1 9 ((σ.2 1 9) ||| ((1 : Int64) <<< ((nI c).toInt64 &&& 63))), ?_, ls_bits H rfl (by rw [hx]; decide) (by rw [hx]; decide) ⟨by rw [sL_ne (by decide)]; exact bts_keep H.2.2.1.1 (by rw [hg]; decide), by rw [sL_eq]; exact bts_set H.2.2.1.2.1 hc hg, by rw [sL_ne (by decide)]; exact bts_keep H.2.2.1.2.2.1 (by rw [hg]; decide), by rw [sL_ne (by decide)]; exact bts_keep H.2.2.1.2.2.2.1 (by rw [hg]; decide), by rw [sL_ne (by decide)]; exact bts_keep H.2.2.1.2.2.2.2 (by rw [hg]; decide)⟩, frL_L σ _ _⟩
  unfold FX1_layCell
  rw [hx, nm_eq, if_neg (by decide), if_neg (by decide), if_neg (by decide), if_neg (by decide), if_pos rfl, nm_eq]
theorem lc_crack {cd : Nat → Int32} {h w c : Nat} {σ : Mem} (H : LaX cd h w c σ) (hc : c < 36) (hC4 : nC cd w (c + 1) ≤ 4) (hx : sgn cd w c = 99) : ∃ σ', FX1_layCell σ (nI c) (sgn cd w c) = some σ' ∧ LaX cd h w (c + 1) σ' ∧ FrL σ σ' := by
  have hg : fg cd w c = 3 := by unfold fg; rw [hx]; decide
  have hB : isB (sgn cd w c) = false := by rw [hx]; decide
  have hC : gN (sgn cd w c) = 3 := hg
  have hq : cq cd w c = true := by unfold cq; rw [hC]; rfl
  have eB : nB cd w (c + 1) = nB cd w c := by rw [nB_s, hB]; rfl
  have eC : nC cd w (c + 1) = nC cd w c + 1 := by rw [nC_s, if_pos hC]
  refine ⟨setI (setI σ 20 (nC cd w c) (nI c)) 1 7 (nI (nC cd w c + 1)), ?_, ⟨⟨?_, ?_, ?_, ?_⟩, fun j hj => ?_, ⟨?_, ?_, ?_, ?_, ?_⟩, fun k hk => ?_⟩, frL_t (frL_I σ _ _ (by omega)) (frL_I _ _ _ (by omega))⟩
  · unfold FX1_layCell FX1_layCrack
    rw [hx, nm_eq, if_neg (by decide), if_neg (by decide), if_neg (by decide), if_pos rfl, H.1.2.2.2, if_neg (show ¬ (4 : Int32) ≤ nI (nC cd w c) from nI_ge (b := 4) (by omega) (by omega)), stI_in (by omega) (by decide), setI_ne1 (by decide), H.1.2.2.2, nI_1, nm_eq, bv_some]
  · rw [sI_ne (by decide), setI_ne1 (by decide)]; exact H.1.1
  · rw [sI_ne (by decide), setI_ne1 (by decide)]; exact H.1.2.1
  · rw [sI_ne (by decide), setI_ne1 (by decide), eB]; exact H.1.2.2.1
  · rw [sI_eq, eC]
  · rw [setI_ne1 (by decide), setI_s1]
    rw [eC] at hj
    by_cases e : j = nC cd w c
    · rw [e, upd_eq]
      exact congrArg nI (fl_new hq).symm
    · rw [upd_ne e, fl_old (show j < (fl (cq cd w) c).length from Nat.lt_of_le_of_ne (Nat.le_of_lt_succ hj) e)]
      exact H.2.1 j (Nat.lt_of_le_of_ne (Nat.le_of_lt_succ hj) e)
  · exact bts_keep H.2.2.1.1 (by rw [hg]; decide)
  · exact bts_keep H.2.2.1.2.1 (by rw [hg]; decide)
  · exact bts_keep H.2.2.1.2.2.1 (by rw [hg]; decide)
  · exact bts_keep H.2.2.1.2.2.2.1 (by rw [hg]; decide)
  · exact bts_keep H.2.2.1.2.2.2.2 (by rw [hg]; decide)
  · rw [eB] at hk
    have eo : bA cd w (c + 1) k = bA cd w c k := fl_old hk
    rw [setI_ne1 (by decide), setI_ne1 (by decide), setI_ne1 (by decide), setI_ne1 (by decide), eo]; exact H.2.2.2 k hk
theorem lc_ice {cd : Nat → Int32} {h w c : Nat} {σ : Mem} (H : LaX cd h w c σ) (hc : c < 36) (hB6 : nB cd w (c + 1) ≤ 6) (h1 : ¬ sgn cd w c = 35) (h2 : ¬ sgn cd w c = 97) (h3 : ¬ sgn cd w c = 98) (h4 : ¬ sgn cd w c = 99) (h5 : ¬ sgn cd w c = 115) : ∃ σ', FX1_layCell σ (nI c) (sgn cd w c) = some σ' ∧ LaX cd h w (c + 1) σ' ∧ FrL σ σ' := by
  have hg : fg cd w c = 0 := by unfold fg gN; rw [if_neg h1, if_neg h5, if_neg h4, if_neg h2, if_neg h3]
  have hC : gN (sgn cd w c) ≠ 3 := by
    have : gN (sgn cd w c) = 0 := hg
    rw [this]; decide
  have eC : nC cd w (c + 1) = nC cd w c := by rw [nC_s, if_neg hC]; rfl
  generalize hs : setL σ 1 12 ((σ.2 1 12) ||| ((1 : Int64) <<< ((nI c).toInt64 &&& 63))) = σ1
  have hb : bitsC (fg cd w) 1 (c + 1) (σ1.2 1 8) ∧ bitsC (fg cd w) 2 (c + 1) (σ1.2 1 9) ∧ bitsC (fg cd w) 4 (c + 1) (σ1.2 1 10) ∧ bitsC (fg cd w) 5 (c + 1) (σ1.2 1 11) ∧ bitsC (fg cd w) 0 (c + 1) (σ1.2 1 12) := by
    rw [← hs]
    exact ⟨by rw [sL_ne (by decide)]; exact bts_keep H.2.2.1.1 (by rw [hg]; decide), by rw [sL_ne (by decide)]; exact bts_keep H.2.2.1.2.1 (by rw [hg]; decide), by rw [sL_ne (by decide)]; exact bts_keep H.2.2.1.2.2.1 (by rw [hg]; decide), by rw [sL_ne (by decide)]; exact bts_keep H.2.2.1.2.2.2.1 (by rw [hg]; decide), by rw [sL_eq]; exact bts_set H.2.2.1.2.2.2.2 hc hg⟩
  have hs1 : σ1.1 = σ.1 := by rw [← hs]; rfl
  have hF1 : FrL σ σ1 := by rw [← hs]; exact frL_L σ _ _
  have hun : FX1_layCell σ (nI c) (sgn cd w c) = (bv (FX1_layBlock σ1 (nI c) (kI (sgn cd w c))) fun σ20 => some σ20) := by
    unfold FX1_layCell
    rw [nm_eq, if_neg h1, if_neg h2, if_neg h3, if_neg h4, if_neg h5, nm_eq, hs, kos_eq, bi_some]
  cases hB : isB (sgn cd w c)
  · refine ⟨σ1, ?_, ls_bits H hs1 hB hC hb, hF1⟩
    rw [hun, kI_f hB]
    unfold FX1_layBlock
    rw [if_pos (show (-1 : Int32) < 0 by decide), bv_some]
  · have eB : nB cd w (c + 1) = nB cd w c + 1 := by rw [nB_s, if_pos hB]
    have g6 : σ1.1 1 6 = nI (nB cd w c) := by rw [hs1]; exact H.1.2.2.1
    refine ⟨setI (setI (setI σ1 18 (nB cd w c) (nI (kN (sgn cd w c)))) 19 (nB cd w c) (nI c)) 1 6 (nI (nB cd w c + 1)), ?_, ⟨⟨?_, ?_, ?_, ?_⟩, fun j hj => ?_, hb, fun k hk => ?_⟩, frL_t hF1 (frL_t (frL_t (frL_I _ _ _ (by omega)) (frL_I _ _ _ (by omega))) (frL_I _ _ _ (by omega)))⟩
    · rw [hun, (kI_t hB).1]
      unfold FX1_layBlock
      rw [if_neg (nI_pos (by have := kN_le (sgn cd w c); omega)), g6, if_neg (show ¬ (6 : Int32) ≤ nI (nB cd w c) from nI_ge (b := 6) (by omega) (by omega)), stI_in (by omega) (by decide), setI_ne1 (by decide), g6, stI_in (by omega) (by decide), setI_ne1 (by decide), setI_ne1 (by decide), g6, nI_1, nm_eq, bv_some]
    · rw [sI_ne (by decide), setI_ne1 (by decide), setI_ne1 (by decide), hs1]; exact H.1.1
    · rw [sI_ne (by decide), setI_ne1 (by decide), setI_ne1 (by decide), hs1]; exact H.1.2.1
    · rw [sI_eq, eB]
    · rw [sI_ne (by decide), setI_ne1 (by decide), setI_ne1 (by decide), hs1, eC]; exact H.1.2.2.2
    · rw [eC] at hj
      rw [setI_ne1 (by decide), setI_ne1 (by decide), setI_ne1 (by decide), hs1, fl_old hj]; exact H.2.1 j hj
    · rw [eB] at hk
      have o18 : (setI (setI (setI σ1 18 (nB cd w c) (nI (kN (sgn cd w c)))) 19 (nB cd w c) (nI c)) 1 6 (nI (nB cd w c + 1))).1 18 = upd (σ.1 18) (nB cd w c) (nI (kN (sgn cd w c))) := by rw [setI_ne1 (by decide), setI_ne1 (by decide), setI_s1, hs1]
      have o19 : (setI (setI (setI σ1 18 (nB cd w c) (nI (kN (sgn cd w c)))) 19 (nB cd w c) (nI c)) 1 6 (nI (nB cd w c + 1))).1 19 = upd (σ.1 19) (nB cd w c) (nI c) := by rw [setI_ne1 (by decide), setI_s1, setI_ne1 (by decide), hs1]
      rw [o18, o19]
      by_cases e : k = nB cd w c
      · have en : bA cd w (c + 1) k = c := by rw [e]; exact fl_new hB
        rw [en, e, upd_eq, upd_eq]; exact ⟨rfl, rfl⟩
      · have hk2 : k < nB cd w c := by omega
        have eo : bA cd w (c + 1) k = bA cd w c k := fl_old hk2
        rw [upd_ne e, upd_ne e, eo]
        exact H.2.2.2 k hk2
theorem lc_eq {cd : Nat → Int32} {h w c : Nat} {σ : Mem} (H : LaX cd h w c σ) (hc : c < 36) (hB6 : nB cd w (c + 1) ≤ 6) (hC4 : nC cd w (c + 1) ≤ 4) : ∃ σ', FX1_layCell σ (nI c) (sgn cd w c) = some σ' ∧ LaX cd h w (c + 1) σ' ∧ FrL σ σ' := by
  by_cases h1 : sgn cd w c = 35
  · exact lc_wall H hc h1
  · by_cases h2 : sgn cd w c = 97
    · exact lc_ga H hc h2
    · by_cases h3 : sgn cd w c = 98
      · exact lc_gb H hc h3
      · by_cases h4 : sgn cd w c = 99
        · exact lc_crack H hc hC4 h4
        · by_cases h5 : sgn cd w c = 115
          · exact lc_sand H hc h5
          · exact lc_ice H hc hB6 h1 h2 h3 h4 h5
theorem nB_le (cd : Nat → Int32) (w : Nat) : ∀ m c, nB cd w c ≤ nB cd w (c + m) := by
  intro m
  induction m with
  | zero => intro c; exact Nat.le_refl _
  | succ m ih =>
    intro c
    have := ih c
    have e := nB_s cd w (c + m)
    rw [show c + (m + 1) = c + m + 1 by omega, e]; omega
theorem nC_le (cd : Nat → Int32) (w : Nat) : ∀ m c, nC cd w c ≤ nC cd w (c + m) := by
  intro m
  induction m with
  | zero => intro c; exact Nat.le_refl _
  | succ m ih =>
    intro c
    have := ih c
    have e := nC_s cd w (c + m)
    rw [show c + (m + 1) = c + m + 1 by omega, e]; omega
/-- a sheet's codes, as the class reads them -/
def SF (o i n N : Nat) (cd : Nat → Int32) (σ : Mem) : Prop := σ.1 o 2 = nI N ∧ ∀ p, p < n → σ.1 (o + 4) (i + p) = cd p
theorem rdx_of {o i n N : Nat} {cd : Nat → Int32} {σ : Mem} (hS : SF o i n N cd σ) (hN : N ≤ 60) (hi : i + n ≤ N) : RdX o σ i n cd := by
  intro p hp
  unfold FX5_read
  rw [nI_add, hce_eq hS.1 hN, if_pos (show 0 ≤ (nI (i + p)).toInt ∧ (nI (i + p)).toInt < N by rw [nI_toInt (by omega)]; omega), bi_some, if_neg (show ¬ (1 : Int32) = 0 by decide), rd_in (by omega) (by decide), hS.2 p hp]
theorem sf_L {o i n N : Nat} {cd : Nat → Int32} {σ σ' : Mem} (ho : 7 ≤ o ∧ o ≤ 10) (hF : FrL σ σ') (hS : SF o i n N cd σ) : SF o i n N cd σ' := by
  unfold SF
  rw [hF.1 o (by omega) (by omega) (by omega) (by omega), hF.1 (o + 4) (by omega) (by omega) (by omega) (by omega)]
  exact hS
theorem lay_loop {o i n N h w : Nat} {cd : Nat → Int32} (ho : 7 ≤ o ∧ o ≤ 10) (hN : N ≤ 60) (hi : i + n ≤ N) (hh : h < 7) (hw : w < 7) (hw3 : 3 ≤ w) (hn : n = 3 + h * (w + 1)) (hB6 : nB cd w (h * w) ≤ 6) (hC4 : nC cd w (h * w) ≤ 4) : ∀ (m c f : Nat) (σ : Mem), c + m = h * w → 2 * m < f → SF o i n N cd σ → LaX cd h w c σ → ∃ σ', LaX cd h w (h * w) σ' ∧ FrL σ σ' ∧ FX1_lay_69 o f σ (nI i) (nI n) (nI c) (nI (pP w c)) = FX1_layWays σ' := by
  have hw36 : h * w ≤ 6 * 6 := Nat.mul_le_mul (by omega) (by omega)
  have hend := txt_end h hh w hw hw3
  intro m
  induction m with
  | zero =>
    intro c f σ hc hf hS H
    obtain ⟨f, rfl⟩ : ∃ g, f = g + 1 := ⟨f - 1, by omega⟩
    have ec : c = h * w := by omega
    subst ec
    refine ⟨σ, H, frL_r σ, ?_⟩
    show BX1_lay_69 o (FX1_lay_69 o f) σ (nI i) (nI n) (nI (h * w)) (nI (pP w (h * w))) = _
    unfold BX1_lay_69
    rw [hend, hn, if_pos (nI_le (Nat.le_refl _) (by omega))]
    cases FX1_layWays σ <;> rfl
  | succ m ih =>
    intro c f σ hc hf hS H
    obtain ⟨t1, t2, t3, t4⟩ := txt_ar h hh w hw hw3 c (by omega)
    have eBm : nB cd w (c + 1) ≤ 6 := Nat.le_trans (by have := nB_le cd w m (c + 1); rw [show c + 1 + m = h * w by omega] at this; exact this) hB6
    have eCm : nC cd w (c + 1) ≤ 4 := Nat.le_trans (by have := nC_le cd w m (c + 1); rw [show c + 1 + m = h * w by omega] at this; exact this) hC4
    have sig : ∀ g, 2 * m + 1 < g → ∃ σ', LaX cd h w (h * w) σ' ∧ FrL σ σ' ∧ FX1_lay_69 o g σ (nI i) (nI n) (nI c) (nI (c + c / w + 4)) = FX1_layWays σ' := by
      intro g hg
      obtain ⟨g, rfl⟩ : ∃ f, g = f + 1 := ⟨g - 1, by omega⟩
      obtain ⟨σ1, r1, r2, r3⟩ := lc_eq H (by omega) eBm eCm
      obtain ⟨σ', s1, s2, s3⟩ := ih (c + 1) g σ1 (by omega) (by omega) (sf_L ho r3 hS) r2
      refine ⟨σ', s1, frL_t r3 s2, ?_⟩
      rw [← s3, t4]
      show BX1_lay_69 o (FX1_lay_69 o g) σ (nI i) (nI n) (nI c) (nI (c + c / w + 4)) = _
      unfold BX1_lay_69
      have hlt : c + c / w + 4 < n := by omega
      rw [if_neg (nI_ge hlt (by omega)), H.1.2.1, opr_eq σ (Nat.le_trans (by decide) (Nat.le_add_left 4 _)) (by omega) (by omega), if_neg t3, bi_some, if_pos rfl, rdx_of hS hN hi _ hlt, bi_some]
      have r1' : FX1_layCell σ (nI c) (cd (c + c / w + 4)) = some σ1 := r1
      rw [r1', bv_some, nm_eq, nm_eq, nI_1, nI_1]
    by_cases e0 : c % w = 0
    · have ep : pP w c = c + c / w + 3 := by unfold pP; rw [if_pos e0]
      obtain ⟨f, rfl⟩ : ∃ g, f = g + 1 := ⟨f - 1, by omega⟩
      obtain ⟨σ', s1, s2, s3⟩ := sig f (by omega)
      refine ⟨σ', s1, s2, ?_⟩
      rw [← s3, ep]
      show BX1_lay_69 o (FX1_lay_69 o f) σ (nI i) (nI n) (nI c) (nI (c + c / w + 3)) = _
      unfold BX1_lay_69
      have hlt : c + c / w + 3 < n := by omega
      rw [if_neg (nI_ge hlt (by omega)), H.1.2.1, opr_eq σ (Nat.le_add_left 3 _) (by omega) (by omega), if_pos (t2 e0), bi_some, if_neg (show ¬ (1 : Int32) = 0 by decide), nm_eq, nI_1]
    · have ep : pP w c = c + c / w + 4 := by unfold pP; rw [if_neg e0]
      rw [ep]
      exact sig f (by omega)

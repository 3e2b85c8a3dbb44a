/-! ===== keep, back, undo ===== -/
def wI (A : As) (im : Nat → Option Dy) : As := (A.1, A.2.1, A.2.2.1, A.2.2.2.1, im, A.2.2.2.2.2.1, A.2.2.2.2.2.2.1, A.2.2.2.2.2.2.2)
def wD (A : As) (D : Dy) (n : Nat) : As := (A.1, D, n, A.2.2.2.1, A.2.2.2.2.1, A.2.2.2.2.2.1, A.2.2.2.2.2.2.1, A.2.2.2.2.2.2.2)
def wP (A : As) (D : Dy) (n : Nat) (h : Nat → Dy) : As := (A.1, D, n, h, A.2.2.2.2.1, A.2.2.2.2.2.1, A.2.2.2.2.2.2.1, A.2.2.2.2.2.2.2)
theorem n6 (k i : Nat) : ((6 : Int32) * nI k) + nI i = nI (6 * k + i) := by
  rw [show (6 : Int32) = nI 6 from rfl, pk_mul, nI_add]
theorem stL_in {R : Type} {σ : Mem} {o n j : Nat} (h : j < n) (hn : n < 2 ^ 31) (v : Int64) (f : Mem → Option R) : stL σ o n (nI j) v f = f (setL σ o j v) := by
  unfold stL
  rw [rd_in h hn]
theorem stZ_in {R : Type} {σ : Mem} {o n j : Nat} (h : j < n) (hn : n < 2 ^ 31) (v : Int32) (f : Mem → Option R) : stZ σ o n (nI j) v f = f (setI σ o j (vp_nar .boolean v)) := by
  unfold stZ
  rw [rd_in h hn]
theorem nar0 : vp_nar .boolean 0 = 0 := by decide +kernel
theorem nar1 : vp_nar .boolean 1 = 1 := by decide +kernel
theorem encX_ne {Y : Yd} {D : Dy} {y : Int64} (hc : (crs Y).length ≤ 4) (h : EncX Y D y) : y ≠ -1 := by
  intro e
  have h1 := h.2.2.2 63 (by omega)
  rw [e] at h1
  exact absurd h1 (by decide)
theorem cel_eq {Y : Yd} {σ : Mem} (h : XS Y σ) : FX1_cells σ = some (nI (dn Y), σ) := by
  unfold FX1_cells
  rw [h.1, h.2.1, pk_mul]
  rfl
theorem dn_le {Y : Yd} (h : WFY Y) : dn Y ≤ 36 := by
  rcases h.1 with ⟨a, b, c⟩ | ⟨a, b, c, d⟩
  · show dh Y * dw Y ≤ 36
    rw [a]; omega
  · show dh Y * dw Y ≤ 36
    exact Nat.mul_le_mul b d
theorem dn_0 {Y : Yd} (h : WFY Y) : dn Y = 0 ↔ dh Y = 0 := by
  rcases h.1 with ⟨a, b, c⟩ | ⟨a, b, c, d⟩
  · show dh Y * dw Y = 0 ↔ _
    rw [a]; omega
  · have := Nat.mul_le_mul a c
    show dh Y * dw Y = 0 ↔ _
    omega
theorem keep_loop (x : Nat) (hx : x < 3) : ∀ (m i fuel : Nat) (τ : Mem), i + m = 6 → m < fuel → FX9_keep_33 fuel τ (nI x) (nI i) = some (1, setL (setA τ 13 (fun j => if 6 * x + i ≤ j ∧ j < 6 * x + 6 then τ.1 4 (j - 6 * x) else τ.1 13 j)) 14 x (τ.2 0 8)) := by
  intro m
  induction m with
  | zero =>
    intro i fuel τ hi hf
    obtain ⟨f, rfl⟩ : ∃ f, fuel = f + 1 := ⟨fuel - 1, by omega⟩
    show BX9_keep_33 (FX9_keep_33 f) τ (nI x) (nI i) = _
    unfold BX9_keep_33
    rw [if_pos (show (6 : Int32) ≤ nI i from nI_le (a := 6) (by omega) (by omega)), stL_in hx (by decide), setA_self]
    intro j
    rw [if_neg (by omega)]
  | succ m ih =>
    intro i fuel τ hi hf
    obtain ⟨f, rfl⟩ : ∃ f, fuel = f + 1 := ⟨fuel - 1, by omega⟩
    show BX9_keep_33 (FX9_keep_33 f) τ (nI x) (nI i) = _
    unfold BX9_keep_33
    rw [if_neg (show ¬ (6 : Int32) ≤ nI i from nI_ge (b := 6) (by omega) (by omega)), rd_in (by omega) (by decide), n6, stI_in (by omega) (by decide), nm_eq, nI_1, ih (i + 1) f _ (by omega) (by omega), setA_setI]
    refine congrArg (fun z => some ((1 : Int32), setL z 14 x (τ.2 0 8))) (setA_ext fun j => ?_)
    rw [setI_ne1 (show 4 ≠ 13 by decide), setI_s1]
    by_cases e : j = 6 * x + i
    · subst e
      rw [if_neg (by omega), if_pos (by omega)]
      simp [upd]
    · by_cases h1 : 6 * x + (i + 1) ≤ j ∧ j < 6 * x + 6
      · rw [if_pos h1, if_pos (by omega)]
      · rw [if_neg h1, if_neg (by omega)]; simp [upd, e]
theorem sim_keep : Sim_keep RelW := by
  intro σ τ a h
  obtain ⟨A, hA, hX, hM⟩ := id h
  by_cases hk : 0 ≤ a.toInt ∧ a.toInt < 3
  · obtain ⟨i, hi, rfl⟩ := blk (n := 3) hk
    have h02 : 0 ≤ (nI i).toInt ∧ (nI i).toInt ≤ 2 := by omega
    have hx1 : ¬ nI i < 0 := nI_pos (by omega)
    have hx2 : nI i < (3 : Int32) := nI_lt hi (by decide)
    by_cases hd : dn (aY A) = 0
    · refine ⟨-3, σ, τ, ?_, ?_, h⟩
      · unfold FX8_keep
        rw [if_neg hx1, if_pos hx2, cel_eq hX.1, bi_some, hd, if_pos (show nI 0 = 0 from rfl)]
      · unfold FX9_keep
        rw [in02, if_pos h02, bi_some, if_neg (show ¬ (1 : Int32) = 0 by decide), hM.1.1, (dn_0 hA.1).mp hd, if_pos (show nI 0 = 0 from rfl)]
    · have hh : dh (aY A) ≠ 0 := fun e => hd ((dn_0 hA.1).mpr e)
      have hdl := dn_le hA.1
      have hhl : dh (aY A) < 2 ^ 31 := by rcases hA.1.1 with e | e <;> omega
      refine ⟨1, setL σ 17 i (σ.2 0 9), setL (setA (setI τ 12 i 1) 13 (fun j => if 6 * i + 0 ≤ j ∧ j < 6 * i + 6 then τ.1 4 (j - 6 * i) else τ.1 13 j)) 14 i (τ.2 0 8), ?_, ?_, wI A (va_up (aI A) i (some (aD A))), ?_, ?_, ?_⟩
      · unfold FX8_keep
        rw [if_neg hx1, if_pos hx2, cel_eq hX.1, bi_some, if_neg (nI_ne0 (by omega) (by omega)), stL_in hi (by decide)]
      · unfold FX9_keep
        rw [in02, if_pos h02, bi_some, if_neg (show ¬ (1 : Int32) = 0 by decide), hM.1.1, if_neg (nI_ne0 (by omega) hhl), stZ_in hi (by decide), nar1, show (0 : Int32) = nI 0 from rfl, keep_loop i hi 6 0 FU _ (by omega) (by show 6 < 10000000; omega)]
        rfl
      · refine ⟨hA.1, hA.2.1, hA.2.2.1, hA.2.2.2.1, fun j D hj hD => ?_, hA.2.2.2.2.2⟩
        change va_up (aI A) i (some (aD A)) j = some D at hD
        by_cases e : j = i
        · subst e; rw [va_up_self] at hD; cases hD; exact hA.2.1
        · rw [va_up_ne _ _ e] at hD; exact hA.2.2.2.2.1 j D hj hD
      · refine ⟨hX.1, hX.2.1, hX.2.2.1, fun j hj => ?_, hX.2.2.2.2.1, hX.2.2.2.2.2.1, hX.2.2.2.2.2.2.1, hX.2.2.2.2.2.2.2⟩
        show imX (aY A) (va_up (aI A) i (some (aD A)) j) ((setL σ 17 i (σ.2 0 9)).2 17 j)
        rw [setL_s2]
        by_cases e : j = i
        · subst e; rw [va_up_self]; simp only [vp_updL, if_true]; exact hX.2.1
        · rw [va_up_ne _ _ e]; simp only [vp_updL, if_neg e]; exact hX.2.2.2.1 j hj
      · refine ⟨hM.1, hM.2.1, hM.2.2.1, fun j hj => ?_, hM.2.2.2.2.1, hM.2.2.2.2.2.1, hM.2.2.2.2.2.2.1, hM.2.2.2.2.2.2.2⟩
        show imM (aY A) (va_up (aI A) i (some (aD A)) j) (upd (τ.1 12) i 1 j) (fun k => if 6 * i + 0 ≤ 6 * j + k ∧ 6 * j + k < 6 * i + 6 then τ.1 4 (6 * j + k - 6 * i) else τ.1 13 (6 * j + k)) (vp_updL (τ.2 14) i (τ.2 0 8) j)
        by_cases e : j = i
        · subst e
          rw [va_up_self]
          refine ⟨by simp [upd], fun k hk6 => ?_, ?_⟩
          · show (if _ then _ else _) = _
            rw [if_pos (by omega), show 6 * j + k - 6 * j = k by omega]
            exact hM.2.1.1 k hk6
          · simp only [vp_updL, if_true]; exact hM.2.1.2
        · rw [va_up_ne _ _ e]
          have hold := hM.2.2.2.1 j hj
          simp only [upd, vp_updL, if_neg e]
          cases him : aI A j with
          | none => rw [him] at hold; exact hold
          | some D =>
            rw [him] at hold
            refine ⟨hold.1, fun k hk6 => ?_, hold.2.2⟩
            show (if _ then _ else _) = _
            rw [if_neg (by omega)]
            exact hold.2.1 k hk6
  · have h02 : ¬ (0 ≤ a.toInt ∧ a.toInt ≤ 2) := by omega
    refine ⟨-1, σ, τ, ?_, ?_, h⟩
    · unfold FX8_keep
      by_cases h1 : a < 0
      · rw [if_pos h1]
      · rw [if_neg h1, if_neg (show ¬ a < 3 by rw [toInt_lt] at h1 ⊢; change ¬ a.toInt < 0 at h1; show ¬ a.toInt < 3; omega)]
    · unfold FX9_keep
      rw [in02, if_neg h02, bi_some, if_pos rfl]
theorem back_loop (x : Nat) (hx : x < 3) : ∀ (m i fuel : Nat) (τ : Mem), i + m = 6 → m < fuel → FX9_back_28 fuel τ (nI x) (nI i) = some (1, setI (setL (setA τ 4 (fun j => if i ≤ j ∧ j < 6 then τ.1 13 (6 * x + j) else τ.1 4 j)) 0 8 (τ.2 14 x)) 0 22 0) := by
  intro m
  induction m with
  | zero =>
    intro i fuel τ hi hf
    obtain ⟨f, rfl⟩ : ∃ f, fuel = f + 1 := ⟨fuel - 1, by omega⟩
    show BX9_back_28 (FX9_back_28 f) τ (nI x) (nI i) = _
    unfold BX9_back_28
    rw [if_pos (show (6 : Int32) ≤ nI i from nI_le (a := 6) (by omega) (by omega)), rd_in hx (by decide), nm_eq, nm_eq, setA_self]
    intro j
    rw [if_neg (by omega)]
  | succ m ih =>
    intro i fuel τ hi hf
    obtain ⟨f, rfl⟩ : ∃ f, fuel = f + 1 := ⟨fuel - 1, by omega⟩
    show BX9_back_28 (FX9_back_28 f) τ (nI x) (nI i) = _
    unfold BX9_back_28
    rw [if_neg (show ¬ (6 : Int32) ≤ nI i from nI_ge (b := 6) (by omega) (by omega)), n6, rd_in (by omega) (by decide), stI_in (by omega) (by decide), nm_eq, nI_1, ih (i + 1) f _ (by omega) (by omega), setA_setI]
    refine congrArg (fun z => some ((1 : Int32), setI (setL z 0 8 (τ.2 14 x)) 0 22 0)) (setA_ext fun j => ?_)
    rw [setI_ne1 (show 13 ≠ 4 by decide), setI_s1]
    by_cases e : j = i
    · subst e
      rw [if_neg (by omega), if_pos (by omega)]
      simp [upd]
    · by_cases h1 : i + 1 ≤ j ∧ j < 6
      · rw [if_pos h1, if_pos (by omega)]
      · rw [if_neg h1, if_neg (by omega)]; simp [upd, e]
theorem sim_back : Sim_back RelW := by
  intro σ τ a h
  obtain ⟨A, hA, hX, hM⟩ := id h
  by_cases hk : 0 ≤ a.toInt ∧ a.toInt < 3
  · obtain ⟨i, hi, rfl⟩ := blk (n := 3) hk
    have h02 : 0 ≤ (nI i).toInt ∧ (nI i).toInt ≤ 2 := by omega
    have hx1 : ¬ nI i < 0 := nI_pos (by omega)
    have hx2 : nI i < (3 : Int32) := nI_lt hi (by decide)
    have hx := hX.2.2.2.1 i hi
    have hm := hM.2.2.2.1 i hi
    cases him : aI A i with
    | none =>
      rw [him] at hx hm
      refine ⟨-3, σ, τ, ?_, ?_, h⟩
      · unfold FX8_back
        rw [if_neg hx1, if_pos hx2, rd_in hi (by decide), if_pos (lg_eq.mpr hx)]
      · unfold FX9_back
        rw [in02, if_pos h02, bi_some, if_neg (show ¬ (1 : Int32) = 0 by decide), rd_in hi (by decide), if_pos (show τ.1 12 i = 0 from hm)]
    | some D =>
      rw [him] at hx hm
      have hw := hA.2.2.2.2.1 i D hi him
      refine ⟨1, setI (setL σ 0 9 (σ.2 17 i)) 0 10 0, setI (setL (setA τ 4 (fun j => if 0 ≤ j ∧ j < 6 then τ.1 13 (6 * i + j) else τ.1 4 j)) 0 8 (τ.2 14 i)) 0 22 0, ?_, ?_, wD A D 0, ?_, ?_, ?_⟩
      · unfold FX8_back
        rw [if_neg hx1, if_pos hx2, rd_in hi (by decide), if_neg (fun e => encX_ne hA.1.2.2.2.1 hx (lg_eq.mp e)), rd_in hi (by decide)]
        rfl
      · unfold FX9_back
        rw [in02, if_pos h02, bi_some, if_neg (show ¬ (1 : Int32) = 0 by decide), rd_in hi (by decide), hm.1, if_neg (show ¬ (1 : Int32) = 0 by decide), show (0 : Int32) = nI 0 from rfl, back_loop i hi 6 0 FU _ (by omega) (by show 6 < 10000000; omega)]
        rfl
      · exact ⟨hA.1, hw, Nat.zero_le _, fun q hq => absurd hq (Nat.not_lt_zero _), hA.2.2.2.2⟩
      · exact ⟨hX.1, hx, ⟨rfl, fun q hq => absurd hq (Nat.not_lt_zero _)⟩, hX.2.2.2.1, hX.2.2.2.2.1, hX.2.2.2.2.2.1, hX.2.2.2.2.2.2.1, hX.2.2.2.2.2.2.2⟩
      · refine ⟨hM.1, ⟨fun k hk6 => ?_, hm.2.2⟩, ⟨rfl, fun q hq => absurd hq (Nat.not_lt_zero _)⟩, hM.2.2.2.1, hM.2.2.2.2.1, hM.2.2.2.2.2.1, hM.2.2.2.2.2.2.1, hM.2.2.2.2.2.2.2⟩
        show (if 0 ≤ k ∧ k < 6 then τ.1 13 (6 * i + k) else τ.1 4 k) = _
        rw [if_pos (by omega)]
        exact hm.2.1 k hk6
  · have h02 : ¬ (0 ≤ a.toInt ∧ a.toInt ≤ 2) := by omega
    refine ⟨-1, σ, τ, ?_, ?_, h⟩
    · unfold FX8_back
      by_cases h1 : a < 0
      · rw [if_pos h1]
      · rw [if_neg h1, if_neg (show ¬ a < 3 by rw [toInt_lt] at h1 ⊢; change ¬ a.toInt < 0 at h1; show ¬ a.toInt < 3; omega)]
    · unfold FX9_back
      rw [in02, if_neg h02, bi_some, if_pos rfl]
/-- one push taken back, in the reference -/
theorem undo_in (rl : Mem → Int32 → Int32 → Option (Int32 × Mem)) (x1 x2 : Int32) (p : Nat) (hp : p < 200) : ∀ (m i fuel : Nat) (τ : Mem), τ.1 0 22 = nI p → i + m = 6 → m < fuel → FX9_undo_36 rl fuel τ x1 x2 (nI i) = rl (setL (setA τ 4 (fun j => if i ≤ j ∧ j < 6 then τ.1 10 (6 * p + j) else τ.1 4 j)) 0 8 (τ.2 11 p)) x1 (x2 + 1) := by
  intro m
  induction m with
  | zero =>
    intro i fuel τ hτ hi hf
    obtain ⟨f, rfl⟩ : ∃ f, fuel = f + 1 := ⟨fuel - 1, by omega⟩
    show BX9_undo_36 rl (FX9_undo_36 rl f) τ x1 x2 (nI i) = _
    unfold BX9_undo_36
    rw [if_pos (show (6 : Int32) ≤ nI i from nI_le (a := 6) (by omega) (by omega)), hτ, rd_in hp (by decide), nm_eq, nm_eq, setA_self]
    intro j
    rw [if_neg (by omega)]
  | succ m ih =>
    intro i fuel τ hτ hi hf
    obtain ⟨f, rfl⟩ : ∃ f, fuel = f + 1 := ⟨fuel - 1, by omega⟩
    show BX9_undo_36 rl (FX9_undo_36 rl f) τ x1 x2 (nI i) = _
    unfold BX9_undo_36
    rw [if_neg (show ¬ (6 : Int32) ≤ nI i from nI_ge (b := 6) (by omega) (by omega)), hτ, n6, rd_in (by omega) (by decide), stI_in (by omega) (by decide), nm_eq, nI_1, ih (i + 1) f _ (by rw [setI_ne1 (show 0 ≠ 4 by decide)]; exact hτ) (by omega) (by omega), setA_setI]
    refine congrArg (fun z => rl (setL z 0 8 (τ.2 11 p)) x1 (x2 + 1)) (setA_ext fun j => ?_)
    rw [setI_ne1 (show 10 ≠ 4 by decide), setI_s1]
    by_cases e : j = i
    · subst e
      rw [if_neg (by omega), if_pos (by omega)]
      simp [upd]
    · by_cases h1 : i + 1 ≤ j ∧ j < 6
      · rw [if_pos h1, if_pos (by omega)]
      · rw [if_neg h1, if_neg (by omega)]; simp [upd, e]
/-- the yard behind j pushes taken back -/
def undoD (A : As) (j : Nat) : Dy := if j = 0 then aD A else aH A (aN A - j)
theorem undo_loop {A : As} (hA : WA A) {k : Nat} (hk : k ≤ aN A) : ∀ (m j fuel : Nat) (τ : Mem), j + m = k → m < fuel → RM (wD A (undoD A j) (aN A - j)) τ → ∃ τ', FX9_undo_19 fuel τ (nI k) (nI j) = some (nI (aN A - k), τ') ∧ RM (wD A (undoD A k) (aN A - k)) τ' := by
  have hN := hA.2.2.1
  intro m
  induction m with
  | zero =>
    intro j fuel τ hj hf hR
    obtain ⟨f, rfl⟩ : ∃ f, fuel = f + 1 := ⟨fuel - 1, by omega⟩
    have e : j = k := by omega
    subst e
    refine ⟨τ, ?_, hR⟩
    show BX9_undo_19 (FX9_undo_19 f) τ (nI j) (nI j) = _
    unfold BX9_undo_19
    rw [if_pos (nI_le (by omega) (by omega)), show τ.1 0 22 = nI (aN A - j) from hR.2.2.1.1]
  | succ m ih =>
    intro j fuel τ hj hf hR
    obtain ⟨f, rfl⟩ : ∃ f, fuel = f + 1 := ⟨fuel - 1, by omega⟩
    have hp : τ.1 0 22 = nI (aN A - j) := hR.2.2.1.1
    have hp1 : aN A - j = (aN A - (j + 1)) + 1 := by omega
    show ∃ τ', BX9_undo_19 (FX9_undo_19 f) τ (nI k) (nI j) = _ ∧ _
    unfold BX9_undo_19
    rw [if_neg (nI_ge (by omega) (by omega)), hp, nm_eq, hp1, nI_pred, show (0 : Int32) = nI 0 from rfl, undo_in (FX9_undo_19 f) (nI k) (nI j) (aN A - (j + 1)) (by omega) 6 0 FU _ (by rw [setI_s1]; simp [upd]) (by omega) (by show 6 < 10000000; omega), nI_1]
    refine ih (j + 1) f _ (by omega) (by omega) ⟨hR.1, ?_, ⟨rfl, fun q hq => ?_⟩, hR.2.2.2.1, hR.2.2.2.2.1, hR.2.2.2.2.2.1, hR.2.2.2.2.2.2.1, hR.2.2.2.2.2.2.2⟩
    · have hq : aN A - (j + 1) < aN A - j := by omega
      have hold := hR.2.2.1.2 _ hq
      have e : undoD A (j + 1) = aH A (aN A - (j + 1)) := by unfold undoD; rw [if_neg (by omega)]
      show EncM (aY A) (undoD A (j + 1)) (fun q => if 0 ≤ q ∧ q < 6 then τ.1 10 (6 * (aN A - (j + 1)) + q) else τ.1 4 q) (τ.2 11 (aN A - (j + 1)))
      rw [e]
      refine ⟨fun q hq6 => ?_, hold.2⟩
      show (if 0 ≤ q ∧ q < 6 then _ else _) = _
      rw [if_pos (by omega)]
      exact hold.1 q hq6
    · exact hR.2.2.1.2 q (show q < aN A - j by have : q < aN A - (j + 1) := hq; omega)
theorem sim_undo : Sim_undo RelW := by
  intro σ τ a h
  obtain ⟨A, hA, hX, hM⟩ := id h
  have hN := hA.2.2.1
  have hxn : σ.1 0 10 = nI (aN A) := hX.2.2.1.1
  have hmn : τ.1 0 22 = nI (aN A) := hM.2.2.1.1
  have hnt : (nI (aN A)).toInt = aN A := nI_toInt (by omega)
  by_cases hk : 0 ≤ a.toInt ∧ a.toInt ≤ aN A
  · obtain ⟨k, hk2, rfl⟩ := blk2 hk
    obtain ⟨τ', e2, r2⟩ := undo_loop hA hk2 k 0 FU τ (by omega) (by show k < 10000000; omega) (by
      show RM (wD A (undoD A 0) (aN A)) τ
      unfold undoD
      rw [if_pos rfl]; exact hM)
    have hwa : WA (wD A (undoD A k) (aN A - k)) := by
      refine ⟨hA.1, ?_, show aN A - k ≤ 200 by omega, fun q hq => hA.2.2.2.1 q (by have : q < aN A - k := hq; omega), hA.2.2.2.2⟩
      show WFD (aY A) (undoD A k)
      unfold undoD
      by_cases h0 : k = 0
      · rw [if_pos h0]; exact hA.2.1
      · rw [if_neg h0]; exact hA.2.2.2.1 _ (by omega)
    have hm : FX9_undo τ (nI k) = some (nI (aN A - k), τ') := by
      unfold FX9_undo
      rw [in_eq, hmn, i64_toInt, i64_toInt, hnt, show (0 : Int64).toInt = 0 from rfl, if_pos hk, bi_some, if_neg (show ¬ (1 : Int32) = 0 by decide)]
      exact e2
    have hsub : nI (aN A) - nI k = nI (aN A - k) := pk_sub hk2
    by_cases h0 : k = 0
    · subst h0
      refine ⟨nI (aN A - 0), setI σ 0 10 (nI (aN A)), τ', ?_, hm, _, hwa, ?_, r2⟩
      · unfold FX8_undo
        rw [if_neg (nI_pos (by omega)), hxn, if_pos (nI_le (by omega) (by omega)), nm_eq, if_pos (show nI 0 ≤ 0 by decide), nm_eq, hsub]
        rfl
      · have e : undoD A 0 = aD A := by unfold undoD; rw [if_pos rfl]
        rw [e]
        exact ⟨hX.1, hX.2.1, ⟨rfl, hX.2.2.1.2⟩, hX.2.2.2.1, hX.2.2.2.2.1, hX.2.2.2.2.2.1, hX.2.2.2.2.2.2.1, hX.2.2.2.2.2.2.2⟩
    · refine ⟨nI (aN A - k), setI (setL σ 0 9 (σ.2 16 (aN A - k))) 0 10 (nI (aN A - k)), τ', ?_, hm, _, hwa, ?_, r2⟩
      · unfold FX8_undo
        rw [if_neg (nI_pos (by omega)), hxn, if_pos (nI_le (by omega) (by omega)), nm_eq, if_neg (nI_nle (by omega) (by omega)), hsub, if_neg (nI_pos (by omega)), if_neg (show ¬ (200 : Int32) ≤ nI (aN A - k) from nI_ge (b := 200) (by omega) (by omega)), rd_in (by omega) (by decide)]
        rfl
      · have e : undoD A k = aH A (aN A - k) := by unfold undoD; rw [if_neg h0]
        rw [e]
        exact ⟨hX.1, hX.2.2.1.2 _ (by omega), ⟨rfl, fun q hq => hX.2.2.1.2 q (by have : q < aN A - k := hq; omega)⟩, hX.2.2.2.1, hX.2.2.2.2.1, hX.2.2.2.2.2.1, hX.2.2.2.2.2.2.1, hX.2.2.2.2.2.2.2⟩
  · refine ⟨-2, σ, τ, ?_, ?_, h⟩
    · unfold FX8_undo
      by_cases h1 : a < 0
      · rw [if_pos h1]
      · rw [if_neg h1, hxn, if_neg (show ¬ a ≤ nI (aN A) by rw [toInt_lt] at h1; rw [toInt_le, hnt]; change ¬ a.toInt < 0 at h1; omega)]
    · unfold FX9_undo
      rw [in_eq, hmn, i64_toInt, i64_toInt, hnt, show (0 : Int64).toInt = 0 from rfl, if_neg hk, bi_some, if_pos rfl]

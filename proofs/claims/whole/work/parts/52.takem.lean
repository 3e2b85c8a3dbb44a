/-! ===== yard: the reference takes a yard ===== -/
theorem ym_159 {hw : Nat} (h36 : hw ≤ 36) : ∀ (m i f : Nat) (τ : Mem), (τ.1 0 1) * (τ.1 0 2) = nI hw → i + m = hw → m < f → FX9_yard_159 f τ (nI i) = FX9_yard_191 FU (setA τ 1 (fun j => if i ≤ j ∧ j < hw then τ.1 5 j else τ.1 1 j)) 0 := by
  intro m
  induction m with
  | zero =>
    intro i f τ hτ hi hf
    obtain ⟨f, rfl⟩ : ∃ g, f = g + 1 := ⟨f - 1, by omega⟩
    show BX9_yard_159 (FX9_yard_159 f) τ (nI i) = _
    unfold BX9_yard_159 FX9_cells
    rw [hτ, bi_some, if_pos (nI_le (by omega) (by omega)), setA_self]
    intro j
    rw [if_neg (by omega)]
  | succ m ih =>
    intro i f τ hτ hi hf
    obtain ⟨f, rfl⟩ : ∃ g, f = g + 1 := ⟨f - 1, by omega⟩
    show BX9_yard_159 (FX9_yard_159 f) τ (nI i) = _
    unfold BX9_yard_159 FX9_cells
    rw [hτ, bi_some, if_neg (nI_ge (by omega) (by omega)), rd_in (by omega) (by decide), stI_in (by omega) (by decide), nm_eq, nI_1, ih (i + 1) f _ (by rw [setI_ne1 (by decide)]; exact hτ) (by omega) (by omega), setA_setI]
    refine congrArg (fun z => FX9_yard_191 FU z 0) (setA_ext fun j => ?_)
    rw [setI_ne1 (show 5 ≠ 1 by decide), setI_s1]
    by_cases e : j = i
    · subst e
      rw [if_neg (by omega), if_pos (by omega), upd_eq]
    · rw [upd_ne e]
      by_cases h1 : i + 1 ≤ j ∧ j < hw
      · rw [if_pos h1, if_pos (by omega)]
      · rw [if_neg h1, if_neg (by omega)]
/-- what the second laying leaves -/
def Y191 (b i : Nat) (τ τ' : Mem) : Prop := (∀ o, o ≠ 0 → o ≠ 2 → o ≠ 3 → o ≠ 4 → τ'.1 o = τ.1 o) ∧ (∀ q, q ≠ 22 → τ'.1 0 q = τ.1 0 q) ∧ τ'.1 0 22 = 0 ∧ (∀ o, o ≠ 0 → τ'.2 o = τ.2 o) ∧ τ'.2 0 8 = 0 ∧ τ'.2 0 17 = 0 ∧
  (∀ j, i ≤ j → j < 6 → τ'.1 2 j = τ.1 6 j ∧ τ'.1 3 j = τ.1 7 j ∧ τ'.1 4 j = if j < b then τ.1 7 j else -6) ∧ ∀ j, j < i → τ'.1 2 j = τ.1 2 j ∧ τ'.1 3 j = τ.1 3 j ∧ τ'.1 4 j = τ.1 4 j
theorem ym_191 {b : Nat} (hb : b ≤ 6) : ∀ (m i f : Nat) (τ : Mem), τ.1 0 3 = nI b → i + m = 6 → m < f → ∃ τ', FX9_yard_191 f τ (nI i) = FX9_yard_278 FU τ' 0 ∧ Y191 b i τ τ' := by
  intro m
  induction m with
  | zero =>
    intro i f τ hτ hi hf
    obtain ⟨f, rfl⟩ : ∃ g, f = g + 1 := ⟨f - 1, by omega⟩
    refine ⟨setI (setL (setL τ 0 8 0) 0 17 0) 0 22 0, ?_, fun o h0 _ _ _ => by rw [setI_ne1 h0]; rfl, fun q hq => by rw [sI_ne hq]; rfl, sI_eq, fun o ho => ?_, ?_, ?_, fun j h1 h2 => by omega, fun j _ => ?_⟩
    · show BX9_yard_191 (FX9_yard_191 f) τ (nI i) = _
      unfold BX9_yard_191
      rw [if_pos (show (6 : Int32) ≤ nI i from nI_le (a := 6) (by omega) (by omega)), nm_eq, nm_eq, nm_eq]
    · show (setL (setL τ 0 8 0) 0 17 0).2 o = _
      rw [setL_ne2 ho, setL_ne2 ho]
    · show (setL (setL τ 0 8 0) 0 17 0).2 0 8 = _
      rw [sL_ne (by decide), sL_eq]
    · show (setL (setL τ 0 8 0) 0 17 0).2 0 17 = _
      rw [sL_eq]
    · rw [setI_ne1 (by decide), setI_ne1 (by decide), setI_ne1 (by decide)]; exact ⟨rfl, rfl, rfl⟩
  | succ m ih =>
    intro i f τ hτ hi hf
    obtain ⟨f, rfl⟩ : ∃ g, f = g + 1 := ⟨f - 1, by omega⟩
    have step : ∀ v : Int32, v = (if i < b then τ.1 7 i else -6) → (∃ τ', FX9_yard_191 f (setI (setI (setI τ 2 i (τ.1 6 i)) 3 i (τ.1 7 i)) 4 i v) (nI (i + 1)) = FX9_yard_278 FU τ' 0 ∧ Y191 b i τ τ') := by
      intro v hv
      obtain ⟨τ', r, a1, a2, a3, a4, a5, a6, a7, a8⟩ := ih (i + 1) f (setI (setI (setI τ 2 i (τ.1 6 i)) 3 i (τ.1 7 i)) 4 i v) (by rw [setI_ne1 (by decide), setI_ne1 (by decide), setI_ne1 (by decide)]; exact hτ) (by omega) (by omega)
      refine ⟨τ', r, fun o h0 h2 h3 h4 => ?_, fun q hq => ?_, a3, fun o ho => ?_, a5, a6, fun j h1 h2 => ?_, fun j hj => ?_⟩
      · rw [a1 o h0 h2 h3 h4, setI_ne1 h4, setI_ne1 h3, setI_ne1 h2]
      · rw [a2 q hq, setI_ne1 (by decide), setI_ne1 (by decide), setI_ne1 (by decide)]
      · rw [a4 o ho]; rfl
      · by_cases e : j = i
        · subst e
          obtain ⟨b1, b2, b3⟩ := a8 j (by omega)
          rw [b1, b2, b3]
          refine ⟨?_, ?_, ?_⟩
          · rw [setI_ne1 (by decide), setI_ne1 (by decide), sI_eq]
          · rw [setI_ne1 (by decide), sI_eq]
          · rw [sI_eq, hv]
        · obtain ⟨b1, b2, b3⟩ := a7 j (by omega) h2
          rw [b1, b2, b3, setI_ne1 (by decide), setI_ne1 (by decide), setI_ne1 (by decide), setI_ne1 (by decide), setI_ne1 (by decide), setI_ne1 (by decide)]
          exact ⟨rfl, rfl, rfl⟩
      · obtain ⟨b1, b2, b3⟩ := a8 j (by omega)
        rw [b1, b2, b3]
        refine ⟨?_, ?_, ?_⟩
        · rw [setI_ne1 (by decide), setI_ne1 (by decide), sI_ne (by omega)]
        · rw [setI_ne1 (by decide), sI_ne (by omega), setI_ne1 (by decide)]
        · rw [sI_ne (by omega), setI_ne1 (by decide), setI_ne1 (by decide)]
    have hun : FX9_yard_191 (f + 1) τ (nI i) = FX9_yard_191 f (setI (setI (setI τ 2 i (τ.1 6 i)) 3 i (τ.1 7 i)) 4 i (if i < b then τ.1 7 i else -6)) (nI (i + 1)) := by
      show BX9_yard_191 (FX9_yard_191 f) τ (nI i) = _
      unfold BX9_yard_191
      have c7 : (setI τ 2 i (τ.1 6 i)).1 7 i = τ.1 7 i := by rw [setI_ne1 (by decide)]
      have c7b : (setI (setI τ 2 i (τ.1 6 i)) 3 i (τ.1 7 i)).1 7 i = τ.1 7 i := by rw [setI_ne1 (by decide), setI_ne1 (by decide)]
      have c3 : (setI (setI τ 2 i (τ.1 6 i)) 3 i (τ.1 7 i)).1 0 3 = nI b := by rw [setI_ne1 (by decide), setI_ne1 (by decide), hτ]
      rw [if_neg (show ¬ (6 : Int32) ≤ nI i from nI_ge (b := 6) (by omega) (by omega)), rd_in (by omega) (by decide), stI_in (by omega) (by decide), rd_in (by omega) (by decide), stI_in (by omega) (by decide), c7, c3]
      by_cases e : i < b
      · rw [if_neg (nI_ge e (by omega)), rd_in (by omega) (by decide), stI_in (by omega) (by decide), c7b, nm_eq, nI_1, if_pos e]
      · rw [if_pos (nI_le (by omega) (by omega)), stI_in (by omega) (by decide), nm_eq, nI_1, if_neg e]
    rw [hun]
    exact step _ rfl
theorem ym_278 (τ : Mem) : FX9_yard_278 FU τ 0 = some (τ.1 0 3, setI (setI (setI (setI τ 12 0 0) 12 1 0) 12 2 0) 0 0 0) := by
  show BX9_yard_278 (FX9_yard_278 9999999) τ (nI 0) = _
  unfold BX9_yard_278
  rw [if_neg (show ¬ (3 : Int32) ≤ nI 0 by decide), stZ_in (by decide) (by decide), nar0, nI_1, nm_eq]
  show BX9_yard_278 (FX9_yard_278 9999998) _ (nI 1) = _
  unfold BX9_yard_278
  rw [if_neg (show ¬ (3 : Int32) ≤ nI 1 by decide), stZ_in (by decide) (by decide), nar0, nI_1, nm_eq]
  show BX9_yard_278 (FX9_yard_278 9999997) _ (nI 2) = _
  unfold BX9_yard_278
  rw [if_neg (show ¬ (3 : Int32) ≤ nI 2 by decide), stZ_in (by decide) (by decide), nar0, nI_1, nm_eq]
  show BX9_yard_278 (FX9_yard_278 9999996) _ (nI 3) = _
  unfold BX9_yard_278
  rw [if_pos (show (3 : Int32) ≤ nI 3 by decide), rf_eq, bi_some, setI_ne1 (show 0 ≠ 12 by decide), setI_ne1 (show 0 ≠ 12 by decide), setI_ne1 (show 0 ≠ 12 by decide)]
theorem take_m {A : As} {h w : Nat} {cd : Nat → Int32} (h3 : 3 ≤ h) (h6 : h ≤ 6) (w3 : 3 ≤ w) (w6 : w ≤ 6) (hB6 : nB cd w (h * w) ≤ 6) (hC4 : nC cd w (h * w) ≤ 4) {τ τ1 : Mem} (hM : RM A τ) (hF : FrR τ τ1) (hS : RSt cd h w (h * w) τ1) : ∃ τ', (nm (setI τ1 0 1 (τ1.1 0 15)) fun σ78 => nm (setI σ78 0 2 (σ78.1 0 16)) fun σ79 => nm (setI σ79 0 3 (σ79.1 0 10)) fun σ80 => FX9_yard_159 FU σ80 (0 : Int32)) = some (nI (db (yqd cd h w)), τ') ∧ RM (wY A (yqd cd h w)) τ' := by
  have hY := yq_wf (cd := cd) h3 h6 w3 w6 hB6 hC4
  have h36 : h * w ≤ 36 := dn_le hY
  obtain ⟨s1, s2, s3, s4, s5, s6⟩ := hS
  rw [nm_eq, nm_eq, nm_eq, sI_ne (show 10 ≠ 2 by decide), sI_ne (show 10 ≠ 1 by decide), sI_ne (show 16 ≠ 1 by decide), s1, s3, s4]
  generalize ht : setI (setI (setI τ1 0 1 (nI h)) 0 2 (nI w)) 0 3 (nI (nB cd w (h * w))) = τ2
  have k1 : τ2.1 0 1 = nI h := by rw [← ht, sI_ne (by decide), sI_ne (by decide), sI_eq]
  have k2 : τ2.1 0 2 = nI w := by rw [← ht, sI_ne (by decide), sI_eq]
  have k3 : τ2.1 0 3 = nI (nB cd w (h * w)) := by rw [← ht, sI_eq]
  have kq : ∀ q, q ≠ 1 → q ≠ 2 → q ≠ 3 → τ2.1 0 q = τ1.1 0 q := fun q a b c => by rw [← ht, sI_ne c, sI_ne b, sI_ne a]
  have ko : ∀ o, o ≠ 0 → τ2.1 o = τ1.1 o := fun o a => by rw [← ht, setI_ne1 a, setI_ne1 a, setI_ne1 a]
  have kl : τ2.2 = τ1.2 := by rw [← ht]; rfl
  have e1 := ym_159 (hw := h * w) h36 (h * w) 0 FU τ2 (by rw [k1, k2, pk_mul]) (Nat.zero_add _) (by show h * w < 10000000; omega)
  generalize hg : (fun j => if 0 ≤ j ∧ j < h * w then τ2.1 5 j else τ2.1 1 j) = g at e1
  obtain ⟨τ3, e2, a1, a2, a3, a4, a5, a6, a7, -⟩ := ym_191 (b := nB cd w (h * w)) hB6 6 0 FU (setA τ2 1 g) (by rw [setA_ne1 (by decide)]; exact k3) (by omega) (by show 6 < 10000000; omega)
  refine ⟨setI (setI (setI (setI τ3 12 0 0) 12 1 0) 12 2 0) 0 0 0, ?_, ?_⟩
  · refine (e1.trans (e2.trans (ym_278 τ3))).trans ?_
    rw [a2 3 (by decide), setA_ne1 (by decide), k3]; rfl
  · generalize hs : setI (setI (setI (setI τ3 12 0 0) 12 1 0) 12 2 0) 0 0 0 = τ'
    have v0 : ∀ q, q ≠ 0 → q ≠ 22 → τ'.1 0 q = τ2.1 0 q := fun q a b => by
      rw [← hs, sI_ne a, setI_ne1 (by decide), setI_ne1 (by decide), setI_ne1 (by decide), a2 q b, setA_ne1 (by decide)]
    have vo : ∀ o, o ≠ 0 → o ≠ 12 → τ'.1 o = τ3.1 o := fun o a b => by
      rw [← hs, setI_ne1 a, setI_ne1 b, setI_ne1 b, setI_ne1 b]
    have vl : τ'.2 = τ3.2 := by rw [← hs]; rfl
    have v12 : ∀ j, j < 3 → τ'.1 12 j = 0 := fun j hj => by
      rw [← hs, setI_ne1 (by decide)]
      rcases (show j = 0 ∨ j = 1 ∨ j = 2 by omega) with rfl | rfl | rfl
      · rw [sI_ne (by decide), sI_ne (by decide), sI_eq]
      · rw [sI_ne (by decide), sI_eq]
      · rw [sI_eq]
    have vB : ∀ k, k < nB cd w (h * w) → τ'.1 2 k = nI (kN (sgn cd w (bA cd w (h * w) k))) ∧ τ'.1 3 k = nI (bA cd w (h * w) k) ∧ τ'.1 4 k = nI (bA cd w (h * w) k) := fun k hk => by
      obtain ⟨b1, b2, b3⟩ := a7 k (Nat.zero_le _) (by omega)
      rw [if_pos hk] at b3
      rw [vo 2 (by decide) (by decide), vo 3 (by decide) (by decide), vo 4 (by decide) (by decide), b1, b2, b3, setA_ne1 (by decide), setA_ne1 (by decide), ko 6 (by decide), ko 7 (by decide)]
      exact ⟨(s6 k hk).1, (s6 k hk).2, (s6 k hk).2⟩
    refine ⟨⟨?_, ?_, ?_, fun c hc => ?_, fun k hk => (vB k hk).1, fun k hk => (vB k hk).2.1⟩, ⟨fun k hk => ?_, fun i => ?_⟩, ⟨?_, fun q hq => absurd hq (Nat.not_lt_zero q)⟩, fun i hi => v12 i hi, fun k hk => ?_, ?_, ?_, ?_⟩
    · rw [v0 1 (by decide) (by decide)]; exact k1
    · rw [v0 2 (by decide) (by decide)]; exact k2
    · rw [v0 3 (by decide) (by decide)]; exact k3
    · rw [vo 1 (by decide) (by decide), a1 1 (by decide) (by decide) (by decide) (by decide), setA_s1, ← hg]
      have hc2 : c < h * w := hc
      show (if 0 ≤ c ∧ c < h * w then τ2.1 5 c else τ2.1 1 c) = _
      rw [if_pos ⟨Nat.zero_le _, hc2⟩, ko 5 (by decide)]
      exact s5 c hc2
    · show τ'.1 4 k = lieI (if k < nB cd w (h * w) then bA cd w (h * w) k else pad (yqd cd h w))
      by_cases e : k < nB cd w (h * w)
      · have hl := (hY.2.2.2.2 k e).2
        have hl2 : bA cd w (h * w) k < h * w := hl
        rw [if_pos e, (vB k e).2.2, lie_in (by omega)]
      · obtain ⟨b1, b2, b3⟩ := a7 k (Nat.zero_le _) hk
        have hp : pad (yqd cd h w) = 36 := if_neg (show ¬ h = 0 by omega)
        rw [if_neg e, hp, vo 4 (by decide) (by decide), b3, if_neg e]; rfl
    · rw [vl, a5, w_0]
      show false = (_ && false)
      rw [Bool.and_false]
    · show τ'.1 0 22 = nI 0
      rw [← hs, sI_ne (by decide), setI_ne1 (by decide), setI_ne1 (by decide), setI_ne1 (by decide), a3]; rfl
    · have hold := hM.2.2.2.2.1 k hk
      have key : ∀ o, o = 28 ∨ o = 29 ∨ o = 30 → τ'.1 o = τ.1 o := fun o ho => by
        rw [vo o (by omega) (by omega), a1 o (by omega) (by omega) (by omega) (by omega), setA_ne1 (by omega), ko o (by omega), hF.1 o (by omega) (by omega) (by omega) (by omega)]
      show shM k (aS A k) τ'
      unfold shM at hold ⊢
      rw [key 28 (by omega), key 29 (by omega), key 30 (by omega)]
      exact hold
    · rw [vl]; exact a6
    · rw [v0 51 (by decide) (by decide), kq 51 (by decide) (by decide) (by decide), hF.2.1 51 (by decide) (by decide) (by decide) (by decide) (by decide)]
      exact hM.2.2.2.2.2.2.1
    · show τ'.1 0 0 = 0
      rw [← hs, sI_eq]

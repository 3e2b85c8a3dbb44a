/-! ===== yard: the class takes a yard ===== -/
def yqd (cd : Nat → Int32) (h w : Nat) : Yd := (h, w, nB cd w (h * w), fg cd w, fun k => kN (sgn cd w (bA cd w (h * w) k)), fun k => bA cd w (h * w) k)
theorem yq_wf {cd : Nat → Int32} {h w : Nat} (h3 : 3 ≤ h) (h6 : h ≤ 6) (w3 : 3 ≤ w) (w6 : w ≤ 6) (hB : nB cd w (h * w) ≤ 6) (hC : nC cd w (h * w) ≤ 4) : WFY (yqd cd h w) := by
  refine ⟨Or.inr ⟨h3, h6, w3, w6⟩, hB, fun c _ => gN_le _, hC, fun k hk => ⟨kN_le _, ?_⟩⟩
  exact (fl_mem (q := bq cd w) (c := h * w) hk).1
def FrK (σ σ' : Mem) : Prop := (∀ o, o ≠ 1 → o ≠ 18 → o ≠ 19 → o ≠ 20 → o ≠ 21 → σ'.1 o = σ.1 o) ∧ ∀ o, o ≠ 1 → σ'.2 o = σ.2 o
theorem frK_L {σ σ' : Mem} (h : FrL σ σ') : FrK σ σ' := ⟨fun o a b c d _ => h.1 o a b c d, h.2⟩
theorem frK_W {σ σ' : Mem} (h : FrW σ σ') : FrK σ σ' := ⟨fun o _ _ _ _ e => h.1 o e, fun o _ => by rw [h.2]⟩
theorem frK_t {a b c : Mem} (h1 : FrK a b) (h2 : FrK b c) : FrK a c := ⟨fun o x y z u v => (h2.1 o x y z u v).trans (h1.1 o x y z u v), fun o x => (h2.2 o x).trans (h1.2 o x)⟩
theorem lay_eq {o i n N h w : Nat} {cd : Nat → Int32} (ho : 7 ≤ o ∧ o ≤ 10) (hN : N ≤ 60) (hi : i + n ≤ N) (h3 : 3 ≤ h) (h6 : h ≤ 6) (w3 : 3 ≤ w) (w6 : w ≤ 6) (hn : n = 3 + h * (w + 1)) (hB6 : nB cd w (h * w) ≤ 6) (hC4 : nC cd w (h * w) ≤ 4) (e1 : cd 1 - 48 = nI h) (e2 : cd 2 - 48 = nI w) {σ : Mem} (hS : SF o i n N cd σ) : ∃ σ', FX1_lay o σ (nI i) (nI n) = some σ' ∧ XS (yqd cd h w) σ' ∧ FrK σ σ' := by
  have hY := yq_wf (cd := cd) h3 h6 w3 w6 hB6 hC4
  have hw36 : h * w ≤ 6 * 6 := Nat.mul_le_mul (by omega) (by omega)
  have hw12 : 3 * 4 ≤ h * (w + 1) := Nat.mul_le_mul (by omega) (by omega)
  have r1 : FX5_read o σ (nI i + (1 : Int32)) = some (cd 1, σ) := rdx_of hS hN hi 1 (by omega)
  have r2 : FX5_read o (setI σ 1 4 (nI h)) (nI i + (2 : Int32)) = some (cd 2, setI σ 1 4 (nI h)) := rdx_of (sf_L ho (frL_I σ 4 (nI h) (by omega)) hS) hN hi 2 (by omega)
  have hun : FX1_lay o σ (nI i) (nI n) = FX1_lay_69 o FU (setL (setL (setL (setL (setL (setI (setI (setI (setI σ 1 4 (nI h)) 1 5 (nI w)) 1 6 0) 1 7 0) 1 8 0) 1 9 0) 1 10 0) 1 11 0) 1 12 0) (nI i) (nI n) (nI 0) (nI 3) := by
    unfold FX1_lay
    rw [r1, bi_some, e1, nm_eq, r2, bi_some, e2]
    rfl
  rw [hun]
  generalize hs : (setL (setL (setL (setL (setL (setI (setI (setI (setI σ 1 4 (nI h)) 1 5 (nI w)) 1 6 0) 1 7 0) 1 8 0) 1 9 0) 1 10 0) 1 11 0) 1 12 0) = σ0
  have F0 : FrL σ σ0 := by
    rw [← hs]
    exact frL_t (frL_t (frL_t (frL_t (frL_t (frL_t (frL_t (frL_t (frL_I σ _ _ (by omega)) (frL_I _ _ _ (by omega))) (frL_I _ _ _ (by omega))) (frL_I _ _ _ (by omega))) (frL_L _ _ _)) (frL_L _ _ _)) (frL_L _ _ _)) (frL_L _ _ _)) (frL_L _ _ _)
  have z : ∀ v, bitsC (fg cd w) v 0 0 := fun v i => by rw [w_0, decide_eq_false (Nat.not_lt_zero i), Bool.false_and]
  have L0 : LaX cd h w 0 σ0 := by
    rw [← hs]
    refine ⟨⟨?_, ?_, ?_, ?_⟩, fun j hj => absurd hj (Nat.not_lt_zero j), ⟨?_, ?_, ?_, ?_, ?_⟩, fun k hk => absurd hk (Nat.not_lt_zero k)⟩
    · show (setI (setI (setI (setI σ 1 4 (nI h)) 1 5 (nI w)) 1 6 0) 1 7 0).1 1 4 = _
      rw [sI_ne (by decide), sI_ne (by decide), sI_ne (by decide), sI_eq]
    · show (setI (setI (setI (setI σ 1 4 (nI h)) 1 5 (nI w)) 1 6 0) 1 7 0).1 1 5 = _
      rw [sI_ne (by decide), sI_ne (by decide), sI_eq]
    · show (setI (setI (setI (setI σ 1 4 (nI h)) 1 5 (nI w)) 1 6 0) 1 7 0).1 1 6 = _
      rw [sI_ne (by decide), sI_eq]; rfl
    · show (setI (setI (setI (setI σ 1 4 (nI h)) 1 5 (nI w)) 1 6 0) 1 7 0).1 1 7 = _
      rw [sI_eq]; rfl
    · rw [sL_ne (by decide), sL_ne (by decide), sL_ne (by decide), sL_ne (by decide), sL_eq]; exact z 1
    · rw [sL_ne (by decide), sL_ne (by decide), sL_ne (by decide), sL_eq]; exact z 2
    · rw [sL_ne (by decide), sL_ne (by decide), sL_eq]; exact z 4
    · rw [sL_ne (by decide), sL_eq]; exact z 5
    · rw [sL_eq]; exact z 0
  have p0 : pP w 0 = 3 := by unfold pP; rw [if_pos (Nat.zero_mod w), Nat.zero_div]
  obtain ⟨σ1, l1, l2, l3⟩ := lay_loop ho hN hi (by omega) (by omega) w3 hn hB6 hC4 (h * w) 0 FU σ0 (Nat.zero_add _) (by show 2 * (h * w) < 10000000; omega) (sf_L ho F0 hS) L0
  rw [p0] at l3
  obtain ⟨σ', s1, s2, s3⟩ := lws_eq hY (σ := σ1) ⟨l1.1.1, l1.1.2.1, l1.2.2.1.1⟩
  refine ⟨σ', l3.trans s1, ?_, frK_t (frK_L (frL_t F0 l2)) (frK_W s2)⟩
  unfold XS
  rw [s2.1 1 (by decide), s2.1 18 (by decide), s2.1 19 (by decide), s2.1 20 (by decide), s2.2]
  exact ⟨l1.1.1, l1.1.2.1, l1.1.2.2.1, l1.1.2.2.2, l1.2.1, l1.2.2.1.1, l1.2.2.1.2.1, l1.2.2.1.2.2.1, l1.2.2.1.2.2.2.1, l1.2.2.1.2.2.2.2, fun k hk => (l1.2.2.2 k hk).1, fun k hk => (l1.2.2.2 k hk).2, fun c d hc hd => s3 c d hc hd⟩
theorem encX_c {Y : Yd} {D D' : Dy} {y : Int64} (h : EncX Y D y) (h1 : ∀ k, k < db Y → D.1 k = D'.1 k) (h2 : D.2 = D'.2) : EncX Y D' y :=
  ⟨fun k hk i hi => by rw [h.1 k hk i hi, h1 k hk], fun j hj => by rw [h.2.1 j hj, h2], h.2.2⟩
/-- the yard as its text has it -/
def D0 (Y : Yd) : Dy := (ds Y, fun _ => false)
theorem fy_loop {Y : Yd} (hY : WFY Y) {σ : Mem} (hS : XS Y σ) : ∀ (m k f : Nat) (y : Int64), k + m = db Y → m < f → EncX Y (fun j => if j < k then ds Y j else 0, fun _ => false) y → ∃ y', FX1_firstYard_4 f σ y (nI k) = some (y', σ) ∧ EncX Y (D0 Y) y' := by
  have h6 := hY.2.1
  have h36 := dn_le hY
  intro m
  induction m with
  | zero =>
    intro k f y hk hf hy
    obtain ⟨f, rfl⟩ : ∃ g, f = g + 1 := ⟨f - 1, by omega⟩
    refine ⟨y, ?_, encX_c hy (fun j hj => ?_) rfl⟩
    · show BX1_firstYard_4 (FX1_firstYard_4 f) σ y (nI k) = _
      unfold BX1_firstYard_4
      rw [hS.2.2.1, if_pos (nI_le (by omega) (by omega))]
    · show (if j < k then ds Y j else 0) = ds Y j
      rw [if_pos (by omega)]
  | succ m ih =>
    intro k f y hk hf hy
    obtain ⟨f, rfl⟩ : ∃ g, f = g + 1 := ⟨f - 1, by omega⟩
    have hkb : k < db Y := by omega
    have hds := (hY.2.2.2.2 k hkb).2
    obtain ⟨y1, r1, r2⟩ := wpl_eq hY hy hkb (p := ds Y k) (by omega) σ
    obtain ⟨y', s1, s2⟩ := ih (k + 1) f y1 (by omega) (by omega) (encX_c r2 (fun j hj => by
      show (if j = k then ds Y k else if j < k then ds Y j else 0) = if j < k + 1 then ds Y j else 0
      by_cases e : j = k
      · rw [if_pos e, if_pos (by omega), e]
      · by_cases g : j < k
        · rw [if_neg e, if_pos g, if_pos (by omega)]
        · rw [if_neg e, if_neg g, if_neg (by omega)]) rfl)
    refine ⟨y', ?_, s2⟩
    rw [← s1]
    show BX1_firstYard_4 (FX1_firstYard_4 f) σ y (nI k) = _
    unfold BX1_firstYard_4
    rw [hS.2.2.1, if_neg (nI_ge hkb (by omega)), sta_eq hS h6 hkb, bi_some, r1, bi_some, nI_1, nm_eq]
theorem fy_eq2 {Y : Yd} (hY : WFY Y) {σ : Mem} (hS : XS Y σ) : ∃ y', FX1_firstYard σ = some (y', σ) ∧ EncX Y (D0 Y) y' := by
  have h6 := hY.2.1
  refine fy_loop hY hS (db Y) 0 FU 0 (Nat.zero_add _) (by show db Y < 10000000; omega) ⟨fun k _ i _ => ?_, fun j _ => w_0 _, fun i _ _ => w_0 _, fun i _ => w_0 _⟩
  rw [w_0]
  exact (Nat.zero_testBit i).symm
theorem fill3 (σ : Mem) (v : Int64) : FJ7_fill_d0a16 17 3 σ v = some (setL (setL (setL σ 17 0 v) 17 1 v) 17 2 v) := by
  unfold FJ7_fill_d0a16
  rw [nm_eq]
  show BJ7_fill_d0a16_6 17 3 (FJ7_fill_d0a16_6 17 3 9999999) σ v (nI 0) (nI 3) = _
  unfold BJ7_fill_d0a16_6
  rw [if_neg (show ¬ nI 3 ≤ nI 0 by decide), stL_in (by decide) (by decide), nI_1, nm_eq]
  show BJ7_fill_d0a16_6 17 3 (FJ7_fill_d0a16_6 17 3 9999998) _ v (nI 1) (nI 3) = _
  unfold BJ7_fill_d0a16_6
  rw [if_neg (show ¬ nI 3 ≤ nI 1 by decide), stL_in (by decide) (by decide), nI_1, nm_eq]
  show BJ7_fill_d0a16_6 17 3 (FJ7_fill_d0a16_6 17 3 9999997) _ v (nI 2) (nI 3) = _
  unfold BJ7_fill_d0a16_6
  rw [if_neg (show ¬ nI 3 ≤ nI 2 by decide), stL_in (by decide) (by decide), nI_1, nm_eq]
  show BJ7_fill_d0a16_6 17 3 (FJ7_fill_d0a16_6 17 3 9999996) _ v (nI 3) (nI 3) = _
  unfold BJ7_fill_d0a16_6
  rw [if_pos (show nI 3 ≤ nI 3 by decide)]
/-- the state behind a yard that is taken -/
def wY (A : As) (Y : Yd) : As := (Y, D0 Y, 0, A.2.2.2.1, fun _ => none, A.2.2.2.2.2.1, A.2.2.2.2.2.2.1, 0)
theorem take_x {A : As} {o i n N h w : Nat} {cd : Nat → Int32} (ho : 7 ≤ o ∧ o ≤ 10) (hN : N ≤ 60) (hi : i + n ≤ N) (h3 : 3 ≤ h) (h6 : h ≤ 6) (w3 : 3 ≤ w) (w6 : w ≤ 6) (hn : n = 3 + h * (w + 1)) (hB6 : nB cd w (h * w) ≤ 6) (hC4 : nC cd w (h * w) ≤ 4) (e1 : cd 1 - 48 = nI h) (e2 : cd 2 - 48 = nI w) {σ : Mem} (hS : SF o i n N cd σ) (hX : RX (wF A 0) σ) : ∃ σ', FX8_takeYard o σ (nI i) (nI n) = some σ' ∧ RX (wY A (yqd cd h w)) σ' := by
  have hY := yq_wf (cd := cd) h3 h6 w3 w6 hB6 hC4
  obtain ⟨σ1, l1, l2, l3⟩ := lay_eq ho hN hi h3 h6 w3 w6 hn hB6 hC4 e1 e2 hS
  have hS2 : XS (yqd cd h w) (setL σ1 2 2 (-1)) := by
    unfold XS
    rw [setL_ne2 (show 1 ≠ 2 by decide)]
    exact l2
  obtain ⟨y, f1, f2⟩ := fy_eq2 hY hS2
  refine ⟨setL (setL (setL (setI (setL (setL σ1 2 2 (-1)) 0 9 y) 0 10 0) 17 0 (-1)) 17 1 (-1)) 17 2 (-1), ?_, ?_⟩
  · unfold FX8_takeYard FX6_forget
    rw [l1, bv_some, nm_eq, bv_some, f1, bi_some, nm_eq, nm_eq, fill3, bv_some]
  · generalize hs : setL (setL (setL (setI (setL (setL σ1 2 2 (-1)) 0 9 y) 0 10 0) 17 0 (-1)) 17 1 (-1)) 17 2 (-1) = σ'
    have a1 : ∀ q, q ≠ 0 → σ'.1 q = σ1.1 q := fun q hq => by
      rw [← hs]
      show (setI (setL (setL σ1 2 2 (-1)) 0 9 y) 0 10 0).1 q = _
      rw [setI_ne1 hq]; rfl
    have a0 : ∀ q, q ≠ 10 → σ'.1 0 q = σ1.1 0 q := fun q hq => by
      rw [← hs]
      show (setI (setL (setL σ1 2 2 (-1)) 0 9 y) 0 10 0).1 0 q = _
      rw [sI_ne hq]; rfl
    have a10 : σ'.1 0 10 = 0 := by
      rw [← hs]
      show (setI (setL (setL σ1 2 2 (-1)) 0 9 y) 0 10 0).1 0 10 = _
      rw [sI_eq]
    have b1 : σ'.2 1 = σ1.2 1 := by
      rw [← hs, setL_ne2 (by decide), setL_ne2 (by decide), setL_ne2 (by decide)]
      show (setL (setL σ1 2 2 (-1)) 0 9 y).2 1 = _
      rw [setL_ne2 (by decide), setL_ne2 (by decide)]
    have b9 : σ'.2 0 9 = y := by
      rw [← hs, setL_ne2 (by decide), setL_ne2 (by decide), setL_ne2 (by decide)]
      show (setL (setL σ1 2 2 (-1)) 0 9 y).2 0 9 = _
      rw [sL_eq]
    have b2 : ∀ q, q ≠ 2 → σ'.2 2 q = σ1.2 2 q := fun q hq => by
      rw [← hs, setL_ne2 (by decide), setL_ne2 (by decide), setL_ne2 (by decide)]
      show (setL (setL σ1 2 2 (-1)) 0 9 y).2 2 q = _
      rw [setL_ne2 (by decide), sL_ne hq]
    have b22 : σ'.2 2 2 = -1 := by
      rw [← hs, setL_ne2 (by decide), setL_ne2 (by decide), setL_ne2 (by decide)]
      show (setL (setL σ1 2 2 (-1)) 0 9 y).2 2 2 = _
      rw [setL_ne2 (by decide), sL_eq]
    have b17 : ∀ q, q < 3 → σ'.2 17 q = -1 := fun q hq => by
      rw [← hs]
      rcases (show q = 0 ∨ q = 1 ∨ q = 2 by omega) with rfl | rfl | rfl
      · rw [sL_ne (by decide), sL_ne (by decide), sL_eq]
      · rw [sL_ne (by decide), sL_eq]
      · rw [sL_eq]
    refine ⟨?_, ?_, ⟨a10, fun q hq => absurd hq (Nat.not_lt_zero q)⟩, fun q hq => b17 q hq, ?_, ⟨?_, Or.inl b22⟩, ?_, ?_⟩
    · show XS (yqd cd h w) σ'
      unfold XS
      rw [a1 1 (by decide), a1 18 (by decide), a1 19 (by decide), a1 20 (by decide), a1 21 (by decide), b1]
      exact l2
    · show EncX (yqd cd h w) (D0 (yqd cd h w)) (σ'.2 0 9)
      rw [b9]; exact f2
    · exact xc_cong hX.2.2.2.2.1 (fun j h1 h2 => by rw [a1 j (by omega), l3.1 j (by omega) (by omega) (by omega) (by omega) (by omega)])
    · rw [b2 5 (by decide), l3.2 2 (by decide)]; exact hX.2.2.2.2.2.1.1
    · rw [a0 11 (by decide), l3.1 0 (by decide) (by decide) (by decide) (by decide) (by decide)]; exact hX.2.2.2.2.2.2.1
    · rw [a0 12 (by decide), l3.1 0 (by decide) (by decide) (by decide) (by decide) (by decide)]; exact hX.2.2.2.2.2.2.2

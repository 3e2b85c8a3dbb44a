/-! ===== the class takes a text that is right ===== -/
theorem put_x {A : As} {σ : Mem} (hA : WA A) (hX : RX A σ) {k : Nat} (hk4 : k < 4) {s : Sh} (hs : aS A k = some s) {i : Nat} (hi : i < s.2.1) (v : Int32) : ∃ σ', FX8_put σ (nI k) (nI i) v = some (1, σ') ∧ RX (wS A (va_up (aS A) k (putS s i v)) 0) σ' := by
  have hX0 := rx_F hX 0
  have hx := xc_at hX0.2.2.2.2.1 hk4
  change shX (7 + k) (11 + k) (aS A k) _ at hx
  rw [hs] at hx
  have hw := hA.2.2.2.2.2 k s hk4 hs
  have hi2 : 0 ≤ (nI i).toInt ∧ (nI i).toInt < s.2.1 := by rw [nI_toInt (by omega)]; omega
  refine ⟨setI (setI σ 0 12 0) (7 + k + 4) i (cutI s.1 v), ?_, rx_S hX (fun o ho => by rw [setI_ne1 (by omega), setI_ne1 (by omega)]) (fun j hj => by rw [setI_ne1 (by omega), setI_s1]; simp [upd, hj]) (by rw [setI_ne1 (by omega), setI_s1]; simp [upd]) rfl (xc_up hX.2.2.2.2.1 hk4 (fun j hj hne => ⟨by rw [setI_ne1 (by omega), setI_ne1 (by omega)], by rw [setI_ne1 (by omega), setI_ne1 (by omega)]⟩) ?_)⟩
  · unfold FX8_put
    rw [nm_eq, sat_in _ hk4, bi_some, sh_some (by omega), hno_some hx.1 hw.1, bi_some, if_pos rfl, hce_eq hx.2.1 hw.2, if_pos hi2, bi_some, if_neg (show ¬ (1 : Int32) = 0 by decide)]
    unfold FX5_write
    rw [hce_eq hx.2.1 hw.2, if_pos hi2, bi_some, if_neg (show ¬ (1 : Int32) = 0 by decide), cut_eq hx.1 hw.1, bi_some, stI_in (by omega) (by decide), bv_some]
  · obtain ⟨x1, x2, x3⟩ := hx
    refine ⟨?_, ?_, fun q hq => ?_⟩
    · rw [setI_ne1 (by omega)]; exact x1
    · rw [setI_ne1 (by omega)]; exact x2
    · rw [show 11 + k = 7 + k + 4 by omega, setI_s1]
      show upd _ _ _ _ = upd _ _ _ _
      have x3q := x3 q hq
      rw [show 11 + k = 7 + k + 4 by omega] at x3q
      by_cases e : q = i
      · subst e; simp [upd]
      · simp [upd, e, x3q]
/-- a text without a fault -/
def TxO (cd : Nat → Int32) (h w : Nat) : Prop := cd 0 = 105 ∧ cd 1 = nI (h + 48) ∧ cd 2 = nI (w + 48) ∧ (∀ c, c < h * w → c % w = 0 → cd (c + c / w + 3) = 59) ∧ (∀ c, c < h * w → okS (sgn cd w c) = true) ∧ nB cd w (h * w) ≤ 6 ∧ nC cd w (h * w) ≤ 4
theorem ff_good {o : Nat} {σ : Mem} {i n h w : Nat} {cd : Nat → Int32} (hR : RdX o σ i n cd) (hn : n ≤ 60) (hh : h < 7) (hw : w < 7) (hw3 : 3 ≤ w) (hT : TxO cd h w) (hnn : n = 3 + h * (w + 1)) : ∀ (m c f : Nat), c + m = h * w → 2 * m < f → ff o σ i n h w f (nC cd w c) (nB cd w c) (pP w c) = some (-1, σ) := by
  have hT60 : h * (w + 1) ≤ 6 * 7 := Nat.mul_le_mul (by omega) (by omega)
  have hend := txt_end h hh w hw hw3
  intro m
  induction m with
  | zero =>
    intro c f hc hf
    obtain ⟨g1, rfl⟩ : ∃ f', f = f' + 1 := ⟨f - 1, by omega⟩
    have ec : c = h * w := by omega
    subst ec
    rw [hend, ← hnn, ff_end hn (by omega) (by omega), if_pos hnn]
  | succ m ih =>
    intro c f hc hf
    obtain ⟨t1, t2, t3, t4⟩ := txt_ar h hh w hw hw3 c (by omega)
    have b1 := nB_le cd w (m + 1) c
    have c1 := nC_le cd w (m + 1) c
    rw [hc] at b1 c1
    have b2 := nB_le cd w m (c + 1)
    have c2 := nC_le cd w m (c + 1)
    rw [show c + 1 + m = h * w by omega] at b2 c2
    have hb6 := hT.2.2.2.2.2.1
    have hc4 := hT.2.2.2.2.2.2
    have eB := nB_s cd w c
    have eC := nC_s cd w c
    have sig : ∀ g1, 2 * m + 1 < g1 → ff o σ i n h w g1 (nC cd w c) (nB cd w c) (c + c / w + 4) = some (-1, σ) := by
      intro g1 hg
      obtain ⟨g1, rfl⟩ : ∃ f, g1 = f + 1 := ⟨g1 - 1, by omega⟩
      rw [ff_sig hR hn (by omega) (by omega) g1 (by omega) (by omega) (by omega) (Nat.le_trans (by decide) (Nat.le_add_left 4 _)) t1 t3]
      have hok := hT.2.2.2.2.1 c (by omega)
      change nB cd w (c + 1) = nB cd w c + if isB (cd (c + c / w + 4)) = true then 1 else 0 at eB
      change nC cd w (c + 1) = nC cd w c + if gN (cd (c + c / w + 4)) = 3 then 1 else 0 at eC
      change okS (cd (c + c / w + 4)) = true at hok
      rw [if_pos ⟨hok, fun z => by rw [if_pos z.1] at eC; omega, fun z => by rw [if_pos z.1] at eB; omega⟩, ← eB, ← eC, show c + c / w + 4 + 1 = pP w (c + 1) by rw [t4]]
      exact ih (c + 1) g1 (by omega) (by omega)
    by_cases e0 : c % w = 0
    · have ep : pP w c = c + c / w + 3 := by unfold pP; rw [if_pos e0]
      obtain ⟨g1, rfl⟩ : ∃ f', f = f' + 1 := ⟨f - 1, by omega⟩
      rw [ep, ff_sep hR hn (by omega) (by omega) g1 (by omega) (by omega) (by omega) (Nat.le_add_left 3 _) (by omega) (t2 e0), if_pos (hT.2.2.2.1 c (by omega) e0)]
      exact sig g1 (by omega)
    · have ep : pP w c = c + c / w + 4 := by unfold pP; rw [if_neg e0]
      rw [ep]
      exact sig f (by omega)
theorem yard_x {A : As} {σ : Mem} (hA : WA A) (hX : RX A σ) {k : Nat} (hk4 : k < 4) {s : Sh} (hs : aS A k = some s) (hs0 : s.1 = 0) {h w : Nat} (h3 : 3 ≤ h) (h6 : h ≤ 6) (w3 : 3 ≤ w) (w6 : w ≤ 6) (hn : 3 + h * (w + 1) ≤ s.2.1) (hT : TxO s.2.2 h w) : ∃ σ', FX8_yard σ (nI k) 0 0 (nI (3 + h * (w + 1))) = some (nI (nB s.2.2 w (h * w)), σ') ∧ RX (wY A (yqd s.2.2 h w)) σ' := by
  have hX0 := rx_F hX 0
  have hx := xc_at hX0.2.2.2.2.1 hk4
  change shX (7 + k) (11 + k) (aS A k) _ at hx
  rw [hs] at hx
  have hw := hA.2.2.2.2.2 k s hk4 hs
  generalize hnn : 3 + h * (w + 1) = n at hn
  have hSF : SF (7 + k) 0 n s.2.1 s.2.2 (setI σ 0 12 0) := by
    refine ⟨hx.2.1, fun p hp => ?_⟩
    rw [show 7 + k + 4 = 11 + k by omega, Nat.zero_add]
    exact hx.2.2 p (by omega)
  have hR := rdx_of hSF hw.2 (by omega)
  have hn60 : n ≤ 60 := by omega
  have hn3 : 3 ≤ n := by omega
  have hpr : 3 * 4 ≤ h * (w + 1) := Nat.mul_le_mul (by omega) (by omega)
  have eh : s.2.2 1 - 48 = nI h := by rw [hT.2.1, show (48 : Int32) = nI 48 from rfl, pk_sub (by omega), Nat.add_sub_cancel]
  have ew : s.2.2 2 - 48 = nI w := by rw [hT.2.2.1, show (48 : Int32) = nI 48 from rfl, pk_sub (by omega), Nat.add_sub_cancel]
  have d1 : dgX (s.2.2 1) := (dgX_iff _).mp (by rw [eh, nI_toInt (by omega)]; omega)
  have d2 : dgX (s.2.2 2) := (dgX_iff _).mp (by rw [ew, nI_toInt (by omega)]; omega)
  have hff : FX7_firstFault (7 + k) (setI σ 0 12 0) (nI 0) (nI n) = some (-1, setI σ 0 12 0) := by
    show ff (7 + k) (setI σ 0 12 0) 0 n 3 3 (9999999 + 1) 0 0 0 = _
    rw [ff_p0 hR hn60 (by omega), if_pos hT.1]
    show ff (7 + k) (setI σ 0 12 0) 0 n 3 3 (9999998 + 1) 0 0 1 = _
    rw [ff_p1 hR hn60 (by omega), if_pos d1, eh]
    show ff (7 + k) (setI σ 0 12 0) 0 n h 3 (9999997 + 1) 0 0 2 = _
    rw [ff_p2 hR hn60 (by omega), if_pos d2, ew]
    have p0 : pP w 0 = 3 := by unfold pP; rw [if_pos (Nat.zero_mod w), Nat.zero_div]
    have hw36 : h * w ≤ 6 * 6 := Nat.mul_le_mul (by omega) (by omega)
    have := ff_good hR hn60 (by omega) (by omega) w3 hT hnn.symm (h * w) 0 9999997 (Nat.zero_add _) (by omega)
    rw [p0] at this
    exact this
  obtain ⟨σ', x1, x2⟩ := take_x (A := A) (o := 7 + k) (by omega) hw.2 (by omega) h3 h6 w3 w6 hnn.symm hT.2.2.2.2.2.1 hT.2.2.2.2.2.2 eh ew hSF hX0
  refine ⟨σ', ?_, x2⟩
  unfold FX8_yard
  rw [nm_eq, sat_in _ hk4, bi_some, sh_some (by omega), ila_eq, if_pos (show 0 ≤ (0 : Int32).toInt ∧ (0 : Int32).toInt ≤ 2 by decide), bi_some, if_neg (show ¬ (1 : Int32) = 0 by decide)]
  unfold FX5_faultTakenAs
  rw [hno_some hx.1 hw.1, bi_some, if_pos rfl, hx.1, hs0, if_pos (show nI 0 = (0 : Int32) from rfl), bi_some, if_pos rfl, if_pos (nI_pos' (by omega))]
  unfold FX8_yard_50
  rw [if_pos rfl]
  have hb : bey s.2.1 (0 : Int32) (nI n) := by
    refine ⟨by decide, by rw [nI_toInt (by omega)]; omega, ?_⟩
    show (0 : Int) + (nI n).toInt ≤ _
    rw [nI_toInt (by omega)]; omega
  rw [hcs_t hx.2.1 hw.2 hb, bi_some, if_neg (show ¬ (1 : Int32) = 0 by decide)]
  unfold FX8_yard_69
  rw [if_pos rfl, show FX7_firstFault (7 + k) (setI σ 0 12 0) 0 (nI n) = _ from hff, bi_some, if_pos (show (-1 : Int32) < 0 by decide), show FX8_takeYard (7 + k) (setI σ 0 12 0) 0 (nI n) = _ from x1, bv_some, x2.1.2.2.1]
  rfl
theorem wa_00 : WA A00 := ⟨⟨Or.inl ⟨rfl, rfl, rfl⟩, Nat.zero_le _, fun c hc => absurd hc (Nat.not_lt_zero c), Nat.zero_le _, fun k hk => absurd hk (Nat.not_lt_zero k)⟩, fun k hk => absurd hk (Nat.not_lt_zero k), Nat.zero_le _, fun q hq => absurd hq (Nat.not_lt_zero q), fun i D _ hD => (by cases hD), fun k s _ hs => (by cases hs)⟩
theorem rx_00 : RX A00 σX0 := by
  have bz : ∀ (f : Nat → Nat) (v i : Nat), bit64 0 i = (decide (i < dn Y00) && f i == v) := fun f v i => by rw [w_0, decide_eq_false (show ¬ i < dn Y00 from Nat.not_lt_zero i), Bool.false_and]
  have e0 : EncX Y00 D00 0 := ⟨fun k hk => absurd hk (Nat.not_lt_zero k), fun j hj => absurd hj (Nat.not_lt_zero j), fun i _ _ => w_0 i, fun i _ => w_0 i⟩
  refine ⟨?_, ?_, ?_, ?_, ?_, ?_, ?_, ?_⟩
  · exact ⟨rfl, rfl, rfl, rfl, fun j hj => absurd hj (Nat.not_lt_zero j), bz _ 1, bz _ 2, bz _ 4, bz _ 5, bz _ 0, fun k hk => absurd hk (Nat.not_lt_zero k), fun k hk => absurd hk (Nat.not_lt_zero k), fun c d hc => absurd hc (Nat.not_lt_zero c)⟩
  · exact e0
  · exact ⟨rfl, fun q hq => absurd hq (Nat.not_lt_zero q)⟩
  · intro i hi
    show σX0.2 17 i = -1
    rcases (show i = 0 ∨ i = 1 ∨ i = 2 by omega) with rfl | rfl | rfl <;> rfl
  · exact ⟨⟨rfl, rfl⟩, ⟨rfl, rfl⟩, ⟨rfl, rfl⟩, ⟨rfl, rfl⟩⟩
  · exact ⟨rfl, Or.inl rfl⟩
  · rfl
  · rfl

/-! ===== the law is true ===== -/
section LZ
variable {L : Nat} {xs0 : Nat → Int32}
theorem t_102 (hL : L ≤ 260) {h w : Nat} (h3 : 3 ≤ h) (h5 : h ≤ 5) (w3 : 3 ≤ w) (w5 : w ≤ 5) : ∀ (m c fuel : Nat) (σ : Mem) (yy gg f : Nat → Int32), c + m = h * w → m < fuel → LI h w c yy gg f → RX (AL f) σ → ∃ yy' gg' f' σ', LI h w (h * w) yy' gg' f' ∧ RX (wY (AL f') (yqd f' h w)) σ' ∧ FL_lay_102 L xs0 fuel σ yy gg 0 3 (nI (nC f w c)) 1 (nI (pP w c)) (nI c) = some (nI (nB f' w (h * w)), upd yy' 20 (nI (3 + h * (w + 1))), gg', σ') := by
  have hw25 : h * w ≤ 5 * 5 := Nat.mul_le_mul h5 w5
  have hT : h * (w + 1) ≤ 5 * 6 := Nat.mul_le_mul h5 (by omega)
  have hend := txt_end h (by omega) w (by omega) w3
  intro m
  induction m with
  | zero =>
    intro c fuel σ yy gg f hc hf H hX
    obtain ⟨g, rfl⟩ : ∃ f', fuel = f' + 1 := ⟨fuel - 1, by omega⟩
    have ec : c = h * w := by omega
    subst ec
    obtain ⟨σ', a1, a2⟩ := yard_x (wa_AL f) hX (k := 0) (by decide) (as_AL f) rfl h3 (by omega) w3 (by omega) (show 3 + h * (w + 1) ≤ 60 by omega) ⟨H.2.2.2.2.1.1, H.2.2.2.2.1.2.1, H.2.2.2.2.1.2.2, H.2.2.2.2.2.1, H.2.2.2.2.2.2, by have := H.2.1.1; show nB f w (h * w) ≤ 6; omega, H.2.1.2⟩
    refine ⟨yy, gg, f, σ', H, a2, ?_⟩
    show BL_lay_102 L xs0 (FL_lay_102 L xs0 g) σ yy gg 0 3 (nI (nC f w (h * w))) 1 (nI (pP w (h * w))) (nI (h * w)) = _
    unfold BL_lay_102
    rw [rd0 (by decide) (by decide), rd1 (by decide) (by decide), H.1.1, H.1.2.1, pk_mul, if_pos (nI_le (Nat.le_refl _) (by omega)), stA_20, if_neg (show ¬ (1 : Int32) = 0 by decide), hend, show FX8_yard σ (0 : Int32) (0 : Int32) (0 : Int32) (nI (3 + h * (w + 1))) = _ from a1, bi_some]
  | succ m ih =>
    intro c fuel σ yy gg f hc hf H hX
    obtain ⟨g, rfl⟩ : ∃ f', fuel = f' + 1 := ⟨fuel - 1, by omega⟩
    obtain ⟨t1, t2, t3, t4⟩ := txt_ar h (by omega) w (by omega) w3 c (by omega)
    have hmw : c % w < w := Nat.mod_lt _ (by omega)
    have st : ∃ σ1, RX (AL (if c % w = 0 then upd f (c + c / w + 3) 59 else f)) σ1 ∧ FL_lay_102 L xs0 (g + 1) σ yy gg 0 3 (nI (nC f w c)) 1 (nI (pP w c)) (nI c) = FL_lay_151 L xs0 (FL_lay_102 L xs0 g) σ1 yy gg 0 3 (nI (nC f w c)) 1 (nI (c + c / w + 4)) (nI c) := by
      have un : FL_lay_102 L xs0 (g + 1) σ yy gg 0 3 (nI (nC f w c)) 1 (nI (pP w c)) (nI c) = BL_lay_102 L xs0 (FL_lay_102 L xs0 g) σ yy gg 0 3 (nI (nC f w c)) 1 (nI (pP w c)) (nI c) := rfl
      rw [un]
      unfold BL_lay_102
      rw [rd0 (by decide) (by decide), rd1 (by decide) (by decide), H.1.1, H.1.2.1, pk_mul, if_neg (nI_ge (by omega) (by omega)), rd1 (by decide) (by decide), H.1.2.1, dzI_ok (nI_ne0 (by omega) (by omega)), pk_md (by omega) (by omega) (by omega)]
      by_cases e : c % w = 0
      · have ep : pP w c = c + c / w + 3 := by unfold pP; rw [if_pos e]
        obtain ⟨σ1, a1, a2⟩ := put_al hX (i := c + c / w + 3) (by omega) 59
        refine ⟨σ1, ?_, ?_⟩
        · rw [if_pos e]; exact a2
        · rw [e, if_pos (show nI 0 = 0 from rfl), if_neg (show ¬ (1 : Int32) = 0 by decide), ep, a1, bi_some, if_pos rfl, nm_eq, nI_1]
      · have ep : pP w c = c + c / w + 4 := by unfold pP; rw [if_neg e]
        refine ⟨σ, by rw [if_neg e]; exact hX, ?_⟩
        rw [if_neg (nI_ne0 (by omega) (by omega)), ep]
    obtain ⟨σ1, s1, s2⟩ := st
    obtain ⟨r, code, r1, r2, r3, r4, r5⟩ := l151 (L := L) (xs0 := xs0) hL (FL_lay_102 L xs0 g) σ1 yy gg 3 1 (nI (c + c / w + 4)) (k := nC f w c) (c := c) H.2.1.2 (by omega)
    obtain ⟨ch, c1, c2, c3, c4⟩ := l253 (L := L) (xs0 := xs0) (FL_lay_102 L xs0 g) σ1 yy gg 1 (nI (c + c / w + 4)) (k := nC f w c) (c := c) (b := nB f w c) (by omega) H.2.1.1 H.1.2.2 r1 r2 r3 r4
    obtain ⟨σ2, d1, d2⟩ := l419 (L := L) (xs0 := xs0) (FL_lay_102 L xs0 g) (yy := nxY yy (nB f w c) c ch) (gg := upd gg c (nI (gN ch))) s1 (k := nC f w c + if gN ch = 3 then 1 else 0) (c := c) (p := c + c / w + 4) (by omega) c1
    obtain ⟨e1, e2, e3⟩ := li_step (w := w) (by omega) H c1 c2 c3
    obtain ⟨yy', gg', f', σ', q1, q2, q3⟩ := ih (c + 1) g σ2 _ _ (nxF w c f ch) (by omega) (by omega) e1 d1
    refine ⟨yy', gg', f', σ', q1, q2, ?_⟩
    rw [e3, t4] at q3
    rw [s2, r5, c4, d2]
    exact q3
theorem lay_q (hL : L ≤ 260) {σ : Mem} (hX : RX (AL (fun _ => 0)) σ) : ∃ h w yy gg f σ', 3 ≤ h ∧ h ≤ 5 ∧ 3 ≤ w ∧ w ≤ 5 ∧ LI h w (h * w) yy gg f ∧ RX (wY (AL f) (yqd f h w)) σ' ∧ FL_lay L xs0 σ zI zI 0 5 3 = some (nI (nB f w (h * w)), upd yy 20 (nI (3 + h * (w + 1))), gg, σ') := by
  obtain ⟨v, hv⟩ := cell_tot L hL xs0 0 (by decide)
  obtain ⟨a, ha, hqa⟩ := low_q v (B := 3) (by decide) (by decide)
  obtain ⟨b, hb, hqb⟩ := low_q (v >>> ((3 : Int32) &&& 31)) (B := 3) (by decide) (by decide)
  have e53 : (5 : Int32) - (2 : Int32) = nI 3 := by decide
  have i3 : ∀ n, (3 : Int32) + nI n = nI (3 + n) := fun n => by rw [show (3 : Int32) = nI 3 from rfl, nI_add]
  have i48 : ∀ n, (48 : Int32) + nI n = nI (n + 48) := fun n => by rw [show (48 : Int32) = nI 48 from rfl, nI_add, Nat.add_comm]
  have ct : ∀ n, n < 6 → cutI 0 (nI (n + 48)) = nI (n + 48) := by decide
  generalize hyy : upd (upd (upd zI 0 (nI (3 + a))) 1 (nI (3 + b))) 2 (0 : Int32) = yy
  have y0 : yy 0 = nI (3 + a) := by rw [← hyy, upd_ne (by decide), upd_ne (by decide), upd_eq]
  have y1 : yy 1 = nI (3 + b) := by rw [← hyy, upd_ne (by decide), upd_eq]
  have y2 : yy 2 = nI 0 := by rw [← hyy, upd_eq]; rfl
  obtain ⟨σ1, p1, x1⟩ := put_al hX (i := 0) (by decide) 105
  obtain ⟨σ2, p2, x2⟩ := put_al x1 (i := 1) (by decide) (nI (3 + a + 48))
  obtain ⟨σ3, p3, x3⟩ := put_al x2 (i := 2) (by decide) (nI (3 + b + 48))
  rw [ct (3 + a) (by omega)] at x2 x3
  rw [ct (3 + b) (by omega), show cutI 0 (105 : Int32) = 105 by decide] at x3
  generalize hf : upd (upd (upd (fun _ => (0 : Int32)) 0 105) 1 (nI (3 + a + 48))) 2 (nI (3 + b + 48)) = f at x3
  have hLI : LI (3 + a) (3 + b) 0 yy zI f := by
    refine ⟨⟨y0, y1, y2⟩, ⟨Nat.zero_le _, Nat.zero_le _⟩, fun k hk => absurd hk (Nat.not_lt_zero k), fun j hj => absurd hj (Nat.not_lt_zero j), ⟨?_, ?_, ?_⟩, fun j hj => absurd hj (Nat.not_lt_zero j), fun j hj => absurd hj (Nat.not_lt_zero j)⟩
    · rw [← hf, upd_ne (by decide), upd_ne (by decide), upd_eq]
    · rw [← hf, upd_ne (by decide), upd_eq]
    · rw [← hf, upd_eq]
  obtain ⟨yy', gg', f', σ', q1, q2, q3⟩ := t_102 (L := L) (xs0 := xs0) hL (h := 3 + a) (w := 3 + b) (by omega) (by omega) (by omega) (by omega) ((3 + a) * (3 + b)) 0 FU σ3 yy zI f (Nat.zero_add _) (by
    have : (3 + a) * (3 + b) ≤ 5 * 5 := Nat.mul_le_mul (by omega) (by omega)
    show _ < 10000000
    omega) hLI x3
  refine ⟨3 + a, 3 + b, yy', gg', f', σ', by omega, by omega, by omega, by omega, q1, q2, ?_⟩
  have p0 : pP (3 + b) 0 = 3 := by unfold pP; rw [if_pos (Nat.zero_mod _), Nat.zero_div]
  rw [p0] at q3
  unfold FL_lay
  rw [show FL_cell L xs0 (0 : Int32) = some v from hv, bn_some, e53, hqa, bn_some, i3, stA_0, hqb, bn_some, i3, stA_1, stA_2, hyy, show FX8_put σ (0 : Int32) (0 : Int32) (105 : Int32) = _ from p1, bi_some, if_pos rfl, rd0 (by decide) (by decide), y0, i48, show FX8_put σ1 (0 : Int32) (1 : Int32) (nI (3 + a + 48)) = _ from p2, bi_some, if_pos rfl, rd1 (by decide) (by decide), y1, i48, show FX8_put σ2 (0 : Int32) (2 : Int32) (nI (3 + b + 48)) = _ from p3, bi_some, if_pos rfl]
  exact q3
theorem law_true (L : Nat) (xs0 : Nat → Int32) (hL : L ≤ 260) : FL_law L xs0 σX0 900 = some 1 := by
  obtain ⟨σ1, a1, a2⟩ := sheet_x rx_00 (k := 0) (l := 0) (n := 60) (by decide) (by decide) (by decide)
  obtain ⟨h, w, yy, gg, f, σ2, h3, h5, w3, w5, H, hX, hlay⟩ := lay_q (L := L) (xs0 := xs0) hL (σ := σ1) a2
  have hw25 : h * w ≤ 5 * 5 := Nat.mul_le_mul h5 w5
  have hb3 := H.2.1.1
  have hY := yq_wf (cd := f) (h := h) (w := w) h3 (by omega) w3 (by omega) (by omega) H.2.1.2
  have hA : WA (wY (AL f) (yqd f h w)) := wa_Y (wa_AL f) hY
  have hdb : db (aY (wY (AL f) (yqd f h w))) = nB f w (h * w) := rfl
  have y2 : (upd yy 20 (nI (3 + h * (w + 1)))) 2 = nI (nB f w (h * w)) := by rw [upd_ne (by decide)]; exact H.1.2.2
  have hLY : LawY (yqd f h w) (upd yy 20 (nI (3 + h * (w + 1)))) gg := by
    refine ⟨?_, ?_, y2, fun k hk => ?_, fun k hk => ?_, fun c hc => H.2.2.2.1 c hc⟩
    · rw [upd_ne (by decide)]; exact H.1.1
    · rw [upd_ne (by decide)]; exact H.1.2.1
    · have hk : k < nB f w (h * w) := hk
      rw [upd_ne (by omega)]; exact (H.2.2.1 k hk).1
    · have hk : k < nB f w (h * w) := hk
      rw [upd_ne (by omega)]; exact (H.2.2.1 k hk).2
  have hpad : pad (yqd f h w) = 36 := if_neg (show ¬ h = 0 by omega)
  obtain ⟨l, b1, b2⟩ := begun_q hY hpad hLY
  have hdis : DisD (yqd f h w) (D0 (yqd f h w)) := by
    intro i j hi hj hij _
    have hi : i < (fl (bq f w) (h * w)).length := hi
    have hj : j < (fl (bq f w) (h * w)).length := hj
    show (fl (bq f w) (h * w)).getD i 0 ≠ (fl (bq f w) (h * w)).getD j 0
    rcases Nat.lt_or_ge i j with z | z
    · have := fl_inc z hj; omega
    · have := fl_inc (show j < i by omega) hi; omega
  obtain ⟨v, hv⟩ := cell_tot L hL xs0 7 (by decide)
  obtain ⟨t, ht, hqt⟩ := low_q v (B := 3) (by decide) (by decide)
  have i4 : (4 : Int32) * nI (nB f w (h * w)) = nI (4 * nB f w (h * w)) := by rw [show (4 : Int32) = nI 4 from rfl, pk_mul]
  have main := t_78 (L := L) (xs0 := xs0) (y := upd yy 20 (nI (3 + h * (w + 1)))) (g := gg) hL t (wY (AL f) (yqd f h w)) l zL FU (900 + 2 + 3 + 1 + 1) σ2 (by omega) (by show t < 10000000; omega) ⟨hA, hLY, b2, hb3, ⟨h3, h5, w3, w5⟩, hdis⟩ (by show 0 + t ≤ 200; omega) (by omega) hX
  unfold FL_law
  rw [al_in (by decide), al_in (by decide), show FX8_sheet σX0 (0 : Int32) (0 : Int32) (60 : Int32) = _ from a1, bi_some, if_pos rfl, hlay, bn_some, rd2 (by decide) (by decide)]
  show (if nI (nB f w (h * w)) = (upd yy 20 (nI (3 + h * (w + 1)))) 2 then _ else _) = _
  rw [if_pos y2.symm, rd2 (by decide) (by decide)]
  show (nm ((4 : Int32) * (upd yy 20 (nI (3 + h * (w + 1)))) 2) fun x_373 => bn (FL_begun (upd yy 20 (nI (3 + h * (w + 1)))) 0) _) = _
  rw [y2, i4, nm_eq, b1, bn_some, al_in (by decide), al_in (by decide), show FL_cell L xs0 (7 : Int32) = some v from hv, bn_some, show FL_low v (3 : Int32) = some (nI t) from hqt, bn_some]
  exact main
end LZ

/-! ===== the law lays a yard ===== -/
theorem fl_cong {q q' : Nat → Bool} : ∀ {c : Nat}, (∀ j, j < c → q j = q' j) → fl q c = fl q' c := by
  intro c
  induction c with
  | zero => intro _; rfl
  | succ c ih =>
    intro h
    have h1 := ih fun j hj => h j (by omega)
    have h2 := h c (by omega)
    cases hq : q c
    · rw [fl_f hq, fl_f (by rw [← h2]; exact hq), h1]
    · rw [fl_t hq, fl_t (by rw [← h2]; exact hq), h1]
theorem fl_inc {q : Nat → Bool} : ∀ {c : Nat} {i j : Nat}, i < j → j < (fl q c).length → (fl q c).getD i 0 < (fl q c).getD j 0 := by
  intro c
  induction c with
  | zero => intro i j _ h; exact absurd h (Nat.not_lt_zero j)
  | succ c ih =>
    intro i j hij hj
    have hl := fl_len q c
    cases hq : q c
    · rw [fl_f hq] at hj ⊢; exact ih hij hj
    · rw [hq, if_pos rfl] at hl
      rcases Nat.lt_or_ge j (fl q c).length with z | z
      · rw [fl_old z, fl_old (by omega)]; exact ih hij z
      · have e : j = (fl q c).length := by omega
        subst e
        rw [fl_new hq, fl_old hij]
        exact (fl_mem hij).1
theorem cut_ok {x : Int32} (h : okS x = true) : cutI 0 x = x := by
  rcases sg_or h with rfl | rfl | rfl | rfl | rfl | rfl | rfl | rfl | rfl <;> decide
def AL (f : Nat → Int32) : As := wS A00 (va_up (aS A00) 0 (some (0, 60, f))) 0
theorem wa_AL (f : Nat → Int32) : WA (AL f) := wa_S wa_00 (wa_up wa_00 (fun x hx => by cases hx; exact ⟨Nat.zero_le _, Nat.le_refl _⟩))
theorem as_AL (f : Nat → Int32) : aS (AL f) 0 = some (0, 60, f) := by
  show va_up (aS A00) 0 (some ((0, 60, f) : Sh)) 0 = _
  rw [va_up_self]
theorem al_put (f : Nat → Int32) (i : Nat) (v : Int32) : wS (AL f) (va_up (aS (AL f)) 0 (putS (0, 60, f) i v)) 0 = AL (upd f i (cutI 0 v)) := by
  have : va_up (aS (AL f)) 0 (putS (0, 60, f) i v) = va_up (aS A00) 0 (some (0, 60, upd f i (cutI 0 v))) := by
    funext j
    by_cases e : j = 0
    · subst e; rw [va_up_self, va_up_self]; rfl
    · rw [va_up_ne _ _ e, va_up_ne _ _ e]
      show va_up (aS A00) 0 _ j = _
      rw [va_up_ne _ _ e]
  rw [this]
  rfl
theorem put_al {f : Nat → Int32} {σ : Mem} (hX : RX (AL f) σ) {i : Nat} (hi : i < 60) (v : Int32) : ∃ σ', FX8_put σ (0 : Int32) (nI i) v = some (1, σ') ∧ RX (AL (upd f i (cutI 0 v))) σ' := by
  obtain ⟨σ', a, b⟩ := put_x (wa_AL f) hX (k := 0) (by decide) (as_AL f) (i := i) hi v
  rw [al_put] at b
  exact ⟨σ', a, b⟩
/-- so far -/
def LI (h w c : Nat) (yy gg f : Nat → Int32) : Prop := (yy 0 = nI h ∧ yy 1 = nI w ∧ yy 2 = nI (nB f w c)) ∧ (nB f w c ≤ 3 ∧ nC f w c ≤ 4) ∧ (∀ k, k < nB f w c → yy (4 + k) = nI (kN (sgn f w (bA f w c k))) ∧ yy (10 + k) = nI (bA f w c k)) ∧ (∀ j, j < c → gg j = nI (gN (sgn f w j))) ∧ (f 0 = 105 ∧ f 1 = nI (h + 48) ∧ f 2 = nI (w + 48)) ∧ (∀ j, j < c → j % w = 0 → f (j + j / w + 3) = 59) ∧ ∀ j, j < c → okS (sgn f w j) = true
def nxF (w c : Nat) (f : Nat → Int32) (ch : Int32) : Nat → Int32 := upd (if c % w = 0 then upd f (c + c / w + 3) 59 else f) (c + c / w + 4) ch
theorem nx_old {w c : Nat} {f : Nat → Int32} {ch : Int32} {p : Nat} (h : p < pP w c) : nxF w c f ch p = f p := by
  unfold pP at h
  unfold nxF
  by_cases e : c % w = 0
  · rw [if_pos e] at h ⊢
    rw [upd_ne (by omega), upd_ne (by omega)]
  · rw [if_neg e] at h ⊢
    rw [upd_ne (by omega)]
theorem pos_lt {w c j : Nat} (hw : 0 < w) (h : j < c) : j + j / w + 4 < pP w c := by
  have hd : j / w ≤ c / w := Nat.div_le_div_right (Nat.le_of_lt h)
  unfold pP
  by_cases e : c % w = 0
  · rw [if_pos e]
    have h1 := Nat.div_add_mod c w
    have h2 := Nat.div_add_mod j w
    have : j / w < c / w := by
      rcases Nat.lt_or_ge (j / w) (c / w) with z | z
      · exact z
      · have : j / w = c / w := by omega
        rw [this] at h2
        omega
    omega
  · rw [if_neg e]; omega
theorem li_step {h w c : Nat} (hw : 0 < w) {yy gg f : Nat → Int32} (H : LI h w c yy gg f) {ch : Int32} (hok : okS ch = true) (hb : isB ch = true → nB f w c < 3) (hk : gN ch = 3 → nC f w c < 4) : LI h w (c + 1) (if isB ch = true then upd (upd (upd yy (4 + nB f w c) (nI (kN ch))) (10 + nB f w c) (nI c)) 2 (nI (nB f w c + 1)) else yy) (upd gg c (nI (gN ch))) (nxF w c f ch) ∧ nB (nxF w c f ch) w (c + 1) = nB f w c + (if isB ch = true then 1 else 0) ∧ nC (nxF w c f ch) w (c + 1) = nC f w c + (if gN ch = 3 then 1 else 0) := by
  obtain ⟨⟨y0, y1, y2⟩, ⟨b3, c4⟩, hbl, hg, ⟨f0, f1, f2⟩, hsep, hsg⟩ := H
  have so : ∀ j, j < c → sgn (nxF w c f ch) w j = sgn f w j := fun j hj => nx_old (pos_lt hw hj)
  have sn : sgn (nxF w c f ch) w c = ch := by
    show nxF w c f ch (c + c / w + 4) = ch
    unfold nxF
    rw [upd_eq]
  have eB : fl (bq (nxF w c f ch) w) c = fl (bq f w) c := fl_cong fun j hj => by unfold bq; rw [so j hj]
  have eC : fl (cq (nxF w c f ch) w) c = fl (cq f w) c := fl_cong fun j hj => by unfold cq; rw [so j hj]
  have nBe : nB (nxF w c f ch) w (c + 1) = nB f w c + (if isB ch = true then 1 else 0) := by
    rw [nB_s, sn]; unfold nB; rw [eB]
  have nCe : nC (nxF w c f ch) w (c + 1) = nC f w c + (if gN ch = 3 then 1 else 0) := by
    rw [nC_s, sn]; unfold nC; rw [eC]
  have bo : ∀ k, k < nB f w c → bA (nxF w c f ch) w (c + 1) k = bA f w c k := fun k hk => by
    unfold bA
    rw [fl_old (by rw [eB]; exact hk), eB]
  have hp3 : 3 ≤ pP w c := by
    unfold pP
    by_cases e : c % w = 0
    · rw [if_pos e]; exact Nat.le_add_left 3 _
    · rw [if_neg e]; exact Nat.le_trans (by decide) (Nat.le_add_left 4 _)
  refine ⟨⟨⟨?_, ?_, ?_⟩, ⟨?_, ?_⟩, ?_, ?_, ⟨?_, ?_, ?_⟩, ?_, ?_⟩, nBe, nCe⟩
  · by_cases e : isB ch = true
    · rw [if_pos e, upd_ne (by decide), upd_ne (by omega), upd_ne (by omega)]; exact y0
    · rw [if_neg e]; exact y0
  · by_cases e : isB ch = true
    · rw [if_pos e, upd_ne (by decide), upd_ne (by omega), upd_ne (by omega)]; exact y1
    · rw [if_neg e]; exact y1
  · rw [nBe]
    by_cases e : isB ch = true
    · rw [if_pos e, if_pos e, upd_eq]
    · rw [if_neg e, if_neg e]; exact y2
  · rw [nBe]
    by_cases e : isB ch = true
    · rw [if_pos e]; have := hb e; omega
    · rw [if_neg e]; omega
  · rw [nCe]
    by_cases e : gN ch = 3
    · rw [if_pos e]; have := hk e; omega
    · rw [if_neg e]; omega
  · intro k hk2
    rw [nBe] at hk2
    by_cases e : isB ch = true
    · rw [if_pos e] at hk2
      rw [if_pos e]
      have hb3 := hb e
      rcases Nat.lt_or_ge k (nB f w c) with z | z
      · rw [upd_ne (by omega), upd_ne (by omega), upd_ne (by omega), upd_ne (by omega), upd_ne (by omega), upd_ne (by omega), bo k z, so (bA f w c k) (fl_mem z).1]
        exact hbl k z
      · have ek : k = nB f w c := by omega
        subst ek
        have hbn : bA (nxF w c f ch) w (c + 1) (nB f w c) = c := by
          unfold bA
          have hq : bq (nxF w c f ch) w c = true := by unfold bq; rw [sn]; exact e
          have := fl_new hq
          rw [eB] at this
          exact this
        rw [hbn, sn, upd_ne (by omega), upd_ne (by omega), upd_eq, upd_ne (by omega), upd_eq]
        exact ⟨rfl, rfl⟩
    · rw [if_neg e] at hk2
      rw [if_neg e, bo k hk2, so (bA f w c k) (fl_mem (show k < (fl (bq f w) c).length from hk2)).1]
      exact hbl k hk2
  · intro j hj
    by_cases e : j = c
    · subst e; rw [upd_eq, sn]
    · rw [upd_ne e, so j (by omega)]; exact hg j (by omega)
  · rw [nx_old (by omega)]; exact f0
  · rw [nx_old (by omega)]; exact f1
  · rw [nx_old (by omega)]; exact f2
  · intro j hj hj0
    by_cases e : j = c
    · subst e
      unfold nxF
      rw [upd_ne (by omega), if_pos hj0, upd_eq]
    · have := pos_lt (c := c) hw (show j < c by omega)
      rw [nx_old (by omega)]; exact hsep j (by omega) hj0
  · intro j hj
    by_cases e : j = c
    · subst e; rw [sn]; exact hok
    · rw [so j (by omega)]; exact hsg j (by omega)

/-! ===== the law lays a yard: cell by cell ===== -/
section LL
variable {L : Nat} {xs0 : Nat → Int32}
abbrev R102 : Type := Mem → (Nat → Int32) → (Nat → Int32) → Int32 → Int32 → Int32 → Int32 → Int32 → Int32 → Option (Int32 × (Nat → Int32) × (Nat → Int32) × Mem)
theorem stA_0 {R : Type} (f : Nat → Int32) (v : Int32) (g : (Nat → Int32) → Option R) : stA (0 : Int32) 24 f v g = g (upd f 0 v) := stA_in (j := 0) (by decide) (by decide) f v g
theorem stA_1 {R : Type} (f : Nat → Int32) (v : Int32) (g : (Nat → Int32) → Option R) : stA (1 : Int32) 24 f v g = g (upd f 1 v) := stA_in (j := 1) (by decide) (by decide) f v g
theorem stA_2 {R : Type} (f : Nat → Int32) (v : Int32) (g : (Nat → Int32) → Option R) : stA (2 : Int32) 24 f v g = g (upd f 2 v) := stA_in (j := 2) (by decide) (by decide) f v g
theorem stA_20 {R : Type} (f : Nat → Int32) (v : Int32) (g : (Nat → Int32) → Option R) : stA (20 : Int32) 24 f v g = g (upd f 20 v) := stA_in (j := 20) (by decide) (by decide) f v g
theorem l151 (hL : L ≤ 260) (rl : R102) (σ : Mem) (yy gg : Nat → Int32) (x6 x9 x10 : Int32) {k c : Nat} (hk : k ≤ 4) (hc : c < 36) : ∃ r code, r < 32 ∧ code ≤ 5 ∧ (code = 3 → k < 4) ∧ (25 < r → code = 0) ∧ FL_lay_151 L xs0 rl σ yy gg 0 x6 (nI k) x9 x10 (nI c) = FL_lay_253 L xs0 rl σ yy gg 0 x6 (nI k) x9 x10 (nI c) (nI r) (nI code) := by
  have e6 : (6 : Int32) = nI 6 := rfl
  have hcl : ((0 : Int32) + (1 : Int32)) + (nI c / (6 : Int32)) = nI (1 + c / 6) := by
    rw [e6, pk_div (by omega) (by decide) (by decide), show (0 : Int32) + (1 : Int32) = nI 1 from rfl, nI_add]
  obtain ⟨v, hv⟩ := cell_tot L hL xs0 (1 + c / 6) (by omega)
  obtain ⟨r, hr, hq⟩ := low_q (v >>> (((5 : Int32) * (nI c - nI c / (6 : Int32) * (6 : Int32))) &&& 31)) (B := 32) (by decide) (by decide)
  have le : ∀ a : Nat, a < 1000 → (nI a ≤ nI r ↔ a ≤ r) := fun a ha => by
    rw [toInt_le, nI_toInt (by omega), nI_toInt (by omega)]; omega
  have eqr : ∀ a : Nat, a < 1000 → (nI r = nI a ↔ r = a) := fun a ha => nI_eq (by omega) (by omega)
  have hq' : FL_low (v >>> (((5 : Int32) * (nI c - nI c / (6 : Int32) * (6 : Int32))) &&& 31)) (32 : Int32) = some (nI r) := hq
  have u230 : ∃ code, code ≤ 5 ∧ code ≠ 3 ∧ (25 < r → code = 0) ∧ FL_lay_230 L xs0 rl σ yy gg 0 x6 (nI k) x9 x10 (nI c) (nI r) = FL_lay_253 L xs0 rl σ yy gg 0 x6 (nI k) x9 x10 (nI c) (nI r) (nI code) := by
    unfold FL_lay_230
    by_cases h21 : r = 21
    · exact ⟨4, by omega, by omega, by omega, by rw [if_pos (show nI r = (21 : Int32) from (eqr 21 (by decide)).mpr h21)]; rfl⟩
    · rw [if_neg (show ¬ nI r = (21 : Int32) from fun z => h21 ((eqr 21 (by decide)).mp z))]
      by_cases h22 : r = 22
      · exact ⟨5, by omega, by omega, by omega, by rw [if_pos (show nI r = (22 : Int32) from (eqr 22 (by decide)).mpr h22)]; rfl⟩
      · exact ⟨0, by omega, by omega, fun _ => rfl, by rw [if_neg (show ¬ nI r = (22 : Int32) from fun z => h22 ((eqr 22 (by decide)).mp z))]; rfl⟩
  obtain ⟨cd, u1, u2, u3, u4⟩ := u230
  unfold FL_lay_151
  rw [dzI_ok (by decide), hcl, hv, bn_some, dzI_ok (by decide), hq', bn_some]
  by_cases h14 : 14 ≤ r
  · rw [if_pos (show (14 : Int32) ≤ nI r from (le 14 (by decide)).mpr h14)]
    by_cases h17 : 17 ≤ r
    · rw [if_pos (show (17 : Int32) ≤ nI r from (le 17 (by decide)).mpr h17)]
      by_cases h19 : 19 ≤ r
      · rw [if_pos (show (19 : Int32) ≤ nI r from (le 19 (by decide)).mpr h19)]
        by_cases h21 : 21 ≤ r
        · rw [if_pos (show (21 : Int32) ≤ nI r from (le 21 (by decide)).mpr h21)]
          exact ⟨r, cd, hr, u1, fun z => absurd z u2, u3, u4⟩
        · rw [if_neg (show ¬ (21 : Int32) ≤ nI r from fun z => h21 ((le 21 (by decide)).mp z))]
          by_cases h4 : 4 ≤ k
          · rw [if_pos (show (4 : Int32) ≤ nI k from nI_le (a := 4) h4 (by omega))]
            exact ⟨r, cd, hr, u1, fun z => absurd z u2, u3, u4⟩
          · rw [if_neg (show ¬ (4 : Int32) ≤ nI k from nI_ge (b := 4) (by omega) (by decide))]
            exact ⟨r, 3, hr, by omega, fun _ => by omega, by omega, rfl⟩
      · rw [if_neg (show ¬ (19 : Int32) ≤ nI r from fun z => h19 ((le 19 (by decide)).mp z))]
        exact ⟨r, 2, hr, by omega, by omega, by omega, rfl⟩
    · rw [if_neg (show ¬ (17 : Int32) ≤ nI r from fun z => h17 ((le 17 (by decide)).mp z))]
      exact ⟨r, 1, hr, by omega, by omega, by omega, rfl⟩
  · rw [if_neg (show ¬ (14 : Int32) ≤ nI r from fun z => h14 ((le 14 (by decide)).mp z))]
    exact ⟨r, 0, hr, by omega, by omega, fun _ => rfl, rfl⟩
/-- what a sign makes of the law's arrays -/
def nxY (yy : Nat → Int32) (b c : Nat) (ch : Int32) : Nat → Int32 := if isB ch = true then upd (upd (upd yy (4 + b) (nI (kN ch))) (10 + b) (nI c)) 2 (nI (b + 1)) else yy
theorem l275_0 (rl : R102) (σ : Mem) (yy gg : Nat → Int32) (x6 x9 x10 x12 : Int32) {k c code : Nat} (hc : c < 36) (hcode : code ≤ 5) : ∃ ch, okS ch = true ∧ isB ch = false ∧ (gN ch = 3 ↔ code = 3) ∧ FL_lay_275 L xs0 rl σ yy gg 0 x6 (nI k) x9 x10 (nI c) x12 (nI code) 0 = FL_lay_419 L xs0 rl σ yy (upd gg c (nI (gN ch))) 0 x6 (nI (k + if gN ch = 3 then 1 else 0)) x9 x10 (nI c) ch := by
  have z0' : nI k + (0 : Int32) = nI (k + 0) := by rw [i_add0]; rfl
  have st : FL_lay_275 L xs0 rl σ yy gg 0 x6 (nI k) x9 x10 (nI c) x12 (nI code) 0 = if nI code = (3 : Int32) then FL_lay_296 L xs0 rl σ yy (upd gg c (nI code)) 0 x6 x9 x10 (nI c) x12 (nI code) 0 (1 : Int32) (nI k) else FL_lay_296 L xs0 rl σ yy (upd gg c (nI code)) 0 x6 x9 x10 (nI c) x12 (nI code) 0 (0 : Int32) (nI k) := by
    unfold FL_lay_275
    rw [stA_in (by omega) (by decide)]
  rw [st]
  have e355 : ∀ (g2 : Nat → Int32) (x8 s0 : Int32), FL_lay_355 L xs0 rl σ yy g2 0 x6 x8 x9 x10 (nI c) x12 0 s0 = FL_lay_419 L xs0 rl σ yy g2 0 x6 x8 x9 x10 (nI c) s0 := fun g2 x8 s0 => by
    unfold FL_lay_355
    rw [if_pos rfl]
  rcases (show code = 0 ∨ code = 1 ∨ code = 2 ∨ code = 3 ∨ code = 4 ∨ code = 5 by omega) with rfl | rfl | rfl | rfl | rfl | rfl
  · refine ⟨46, by decide, by decide, by decide, ?_⟩
    rw [if_neg (by decide)]
    unfold FL_lay_296
    rw [z0', nm_eq, if_pos (by decide), e355]
    rfl
  · refine ⟨35, by decide, by decide, by decide, ?_⟩
    rw [if_neg (by decide)]
    unfold FL_lay_296
    rw [z0', nm_eq, if_neg (by decide), if_pos (by decide), e355]
    rfl
  · refine ⟨115, by decide, by decide, by decide, ?_⟩
    rw [if_neg (by decide)]
    unfold FL_lay_296
    rw [z0', nm_eq, if_neg (by decide), if_neg (by decide), if_pos (by decide), e355]
    rfl
  · refine ⟨99, by decide, by decide, by decide, ?_⟩
    rw [if_pos (by decide)]
    unfold FL_lay_296
    rw [nI_1, nm_eq, if_neg (by decide), if_neg (by decide), if_neg (by decide), if_pos (by decide), e355]
    rfl
  · refine ⟨97, by decide, by decide, by decide, ?_⟩
    rw [if_neg (by decide)]
    unfold FL_lay_296
    rw [z0', nm_eq, if_neg (by decide), if_neg (by decide), if_neg (by decide), if_neg (by decide), if_pos (by decide), e355]
    rfl
  · refine ⟨98, by decide, by decide, by decide, ?_⟩
    rw [if_neg (by decide)]
    unfold FL_lay_296
    rw [z0', nm_eq, if_neg (by decide), if_neg (by decide), if_neg (by decide), if_neg (by decide), if_neg (by decide), e355]
    rfl
theorem l275_1 (rl : R102) (σ : Mem) (yy gg : Nat → Int32) (x6 x9 x10 : Int32) {k c b r : Nat} (hc : c < 36) (hb : b ≤ 3) (hy : yy 2 = nI b) (hr : r < 32) : ∃ ch, okS ch = true ∧ isB ch = true ∧ gN ch = 0 ∧ FL_lay_275 L xs0 rl σ yy gg 0 x6 (nI k) x9 x10 (nI c) (nI r) (nI 0) 1 = FL_lay_419 L xs0 rl σ (upd (upd (upd yy (4 + b) (nI (kN ch))) (10 + b) (nI c)) 2 (nI (b + 1))) (upd gg c (nI 0)) 0 x6 (nI k) x9 x10 (nI c) ch := by
  have z0' : nI k + (0 : Int32) = nI k := i_add0 _
  have e3 : (3 : Int32) = nI 3 := rfl
  have hm : nI r - nI r / (3 : Int32) * (3 : Int32) = nI (r % 3) := by rw [e3, pk_md (by omega) (by decide) (by decide)]
  have st : FL_lay_275 L xs0 rl σ yy gg 0 x6 (nI k) x9 x10 (nI c) (nI r) (nI 0) 1 = FL_lay_355 L xs0 rl σ yy (upd gg c (nI 0)) 0 x6 (nI k) x9 x10 (nI c) (nI r) 1 46 := by
    unfold FL_lay_275
    rw [stA_in (by omega) (by decide), if_neg (by decide)]
    unfold FL_lay_296
    rw [z0', nm_eq, if_pos (by decide)]
  rw [st]
  have i4 : (4 : Int32) + nI b = nI (4 + b) := by rw [show (4 : Int32) = nI 4 from rfl, nI_add]
  have i10 : (10 : Int32) + nI b = nI (10 + b) := by rw [show (10 : Int32) = nI 10 from rfl, nI_add]
  unfold FL_lay_355
  rw [if_neg (show ¬ (1 : Int32) = 0 by decide), rd2 (by decide) (by decide), dzI_ok (by decide), hy, i4, hm, stA_in (by omega) (by decide), rd2 (by decide) (by decide), upd_ne (by omega), hy, i10, stA_in (by omega) (by decide), rd2 (by decide) (by decide), upd_ne (by omega), upd_ne (by omega), hy, nI_1, stA_2, dzI_ok (by decide)]
  rcases (show r % 3 = 0 ∨ r % 3 = 1 ∨ r % 3 = 2 by omega) with e | e | e
  · refine ⟨111, by decide, by decide, by decide, ?_⟩
    rw [e, if_pos (by decide)]
    rfl
  · refine ⟨108, by decide, by decide, by decide, ?_⟩
    rw [e, if_neg (by decide), dzI_ok (by decide), if_pos (by decide)]
    rfl
  · refine ⟨100, by decide, by decide, by decide, ?_⟩
    rw [e, if_neg (by decide), dzI_ok (by decide), if_neg (by decide)]
    rfl
theorem l253 (rl : R102) (σ : Mem) (yy gg : Nat → Int32) (x9 x10 : Int32) {k c b r code : Nat} (hc : c < 36) (hb : b ≤ 3) (hy : yy 2 = nI b) (hr : r < 32) (hcode : code ≤ 5) (h3 : code = 3 → k < 4) (h25 : 25 < r → code = 0) : ∃ ch, okS ch = true ∧ (isB ch = true → b < 3) ∧ (gN ch = 3 → k < 4) ∧ FL_lay_253 L xs0 rl σ yy gg 0 3 (nI k) x9 x10 (nI c) (nI r) (nI code) = FL_lay_419 L xs0 rl σ (nxY yy b c ch) (upd gg c (nI (gN ch))) 0 3 (nI (k + if gN ch = 3 then 1 else 0)) x9 x10 (nI c) ch := by
  have no : ∃ ch, okS ch = true ∧ (isB ch = true → b < 3) ∧ (gN ch = 3 → k < 4) ∧ FL_lay_275 L xs0 rl σ yy gg 0 3 (nI k) x9 x10 (nI c) (nI r) (nI code) 0 = FL_lay_419 L xs0 rl σ (nxY yy b c ch) (upd gg c (nI (gN ch))) 0 3 (nI (k + if gN ch = 3 then 1 else 0)) x9 x10 (nI c) ch := by
    obtain ⟨ch, a1, a2, a3, a4⟩ := l275_0 (L := L) (xs0 := xs0) rl σ yy gg 3 x9 x10 (nI r) (k := k) hc hcode
    refine ⟨ch, a1, (fun z => by rw [a2] at z; cases z), (fun z => h3 (a3.mp z)), ?_⟩
    rw [a4]
    unfold nxY
    rw [a2, if_neg (show ¬ false = true by decide)]
  unfold FL_lay_253
  by_cases h : nI r ≤ (25 : Int32)
  · rw [if_pos h]; exact no
  · have hr25 : 25 < r := by
      rw [toInt_le, nI_toInt (by omega)] at h
      change ¬ (r : Int) ≤ 25 at h
      omega
    have hc0 := h25 hr25
    rw [if_neg h, rd2 (by decide) (by decide), hy]
    by_cases hb3 : b = 3
    · rw [if_pos (show (3 : Int32) ≤ nI b by rw [hb3]; decide)]; exact no
    · rw [if_neg (show ¬ (3 : Int32) ≤ nI b from nI_ge (b := 3) (by omega) (by decide)), hc0]
      obtain ⟨ch, a1, a2, a3, a4⟩ := l275_1 (L := L) (xs0 := xs0) rl σ yy gg 3 x9 x10 (k := k) hc hb hy hr
      refine ⟨ch, a1, fun _ => by omega, fun z => by rw [a3] at z; omega, ?_⟩
      rw [a4]
      unfold nxY
      rw [if_pos a2, a3, if_neg (by decide)]
      rfl
/-- one cell, its row's sign ahead of it -/
theorem l419 (rl : R102) {f yy gg : Nat → Int32} {σ : Mem} (hX : RX (AL f) σ) {k c p : Nat} (hp : p < 60) {ch : Int32} (hok : okS ch = true) : ∃ σ', RX (AL (upd f p ch)) σ' ∧ FL_lay_419 L xs0 rl σ yy gg 0 3 (nI k) 1 (nI p) (nI c) ch = rl σ' yy gg 0 3 (nI k) 1 (nI (p + 1)) (nI (c + 1)) := by
  obtain ⟨σ', a, b⟩ := put_al hX hp ch
  rw [cut_ok hok] at b
  refine ⟨σ', b, ?_⟩
  unfold FL_lay_419
  rw [if_neg (show ¬ (1 : Int32) = 0 by decide), a, bi_some, if_pos rfl, nm_eq, nm_eq, nI_1, nI_1]
end LL

/-! ===== yard: a text, sign by sign ===== -/
def gN (x : Int32) : Nat := if x = (35 : Int32) then 1 else if x = (115 : Int32) then 2 else if x = (99 : Int32) then 3 else if x = (97 : Int32) then 4 else if x = (98 : Int32) then 5 else 0
def isB (x : Int32) : Bool := decide (x = (100 : Int32)) || decide (x = (108 : Int32)) || decide (x = (111 : Int32))
def kN (x : Int32) : Nat := if x = (100 : Int32) then 2 else if x = (108 : Int32) then 1 else 0
def okS (x : Int32) : Bool := decide (x = (46 : Int32)) || decide (x = (35 : Int32)) || decide (x = (115 : Int32)) || decide (x = (99 : Int32)) || decide (x = (97 : Int32)) || decide (x = (98 : Int32)) || isB x
def kI (x : Int32) : Int32 := if x = (100 : Int32) then 2 else if x = (108 : Int32) then 1 else if x = (111 : Int32) then 0 else -1
theorem sg_or {x : Int32} (h : okS x = true) : x = 46 ∨ x = 35 ∨ x = 115 ∨ x = 99 ∨ x = 97 ∨ x = 98 ∨ x = 100 ∨ x = 108 ∨ x = 111 := by
  unfold okS isB at h
  simp only [Bool.or_eq_true, decide_eq_true_eq] at h
  rcases h with ((((((h | h) | h) | h) | h) | h) | ((h | h) | h)) <;> simp [h]
theorem sg_no {x : Int32} (h : okS x = false) : x ≠ 46 ∧ x ≠ 35 ∧ x ≠ 115 ∧ x ≠ 99 ∧ x ≠ 97 ∧ x ≠ 98 ∧ x ≠ 100 ∧ x ≠ 108 ∧ x ≠ 111 := by
  have key : ∀ y : Int32, okS y = true → x ≠ y := fun y hy e => by rw [e, hy] at h; cases h
  exact ⟨key 46 (by decide), key 35 (by decide), key 115 (by decide), key 99 (by decide), key 97 (by decide), key 98 (by decide), key 100 (by decide), key 108 (by decide), key 111 (by decide)⟩
theorem kos_eq (σ : Mem) (x : Int32) : FX7_kindOfSign σ x = some (kI x, σ) := by
  unfold FX7_kindOfSign kI
  by_cases h1 : x = 100
  · rw [if_pos h1, if_pos h1]
  · rw [if_neg h1, if_neg h1]
    by_cases h2 : x = 108
    · rw [if_pos h2, if_pos h2]
    · rw [if_neg h2, if_neg h2]
      by_cases h3 : x = 111
      · rw [if_pos h3, if_pos h3]
      · rw [if_neg h3, if_neg h3]
theorem kI_t {x : Int32} (h : isB x = true) : kI x = nI (kN x) ∧ ¬ kI x < 0 := by
  unfold isB at h
  simp only [Bool.or_eq_true, decide_eq_true_eq] at h
  rcases h with (rfl | rfl) | rfl <;> decide
theorem kI_f {x : Int32} (h : isB x = false) : kI x = -1 := by
  have key : ∀ y : Int32, isB y = true → x ≠ y := fun y hy e => by rw [e, hy] at h; cases h
  unfold kI
  rw [if_neg (key 100 (by decide)), if_neg (key 108 (by decide)), if_neg (key 111 (by decide))]
theorem isB_ok {x : Int32} (h : isB x = true) : okS x = true := by unfold okS; rw [h, Bool.or_true]
theorem issg_eq (σ : Mem) (x : Int32) : FX7_isSign σ x = some (if okS x = true then 1 else 0, σ) := by
  unfold FX7_isSign
  by_cases h : okS x = true
  · rw [if_pos h]
    rcases sg_or h with rfl | rfl | rfl | rfl | rfl | rfl | rfl | rfl | rfl
    · rw [if_pos rfl]; rfl
    · rw [if_neg (by decide), if_pos rfl]; rfl
    · rw [if_neg (by decide), if_neg (by decide), if_pos rfl]; rfl
    · rw [if_neg (by decide), if_neg (by decide), if_neg (by decide), if_pos rfl]; rfl
    · rw [if_neg (by decide), if_neg (by decide), if_neg (by decide), if_neg (by decide), if_pos rfl]; rfl
    · rw [if_neg (by decide), if_neg (by decide), if_neg (by decide), if_neg (by decide), if_neg (by decide), if_pos rfl]; rfl
    · rw [if_neg (by decide), if_neg (by decide), if_neg (by decide), if_neg (by decide), if_neg (by decide), if_neg (by decide), kos_eq, bi_some, if_neg (by decide)]; rfl
    · rw [if_neg (by decide), if_neg (by decide), if_neg (by decide), if_neg (by decide), if_neg (by decide), if_neg (by decide), kos_eq, bi_some, if_neg (by decide)]; rfl
    · rw [if_neg (by decide), if_neg (by decide), if_neg (by decide), if_neg (by decide), if_neg (by decide), if_neg (by decide), kos_eq, bi_some, if_neg (by decide)]; rfl
  · rw [if_neg h]
    obtain ⟨h1, h2, h3, h4, h5, h6, h7, h8, h9⟩ := sg_no (Bool.eq_false_iff.mpr h)
    have hb : isB x = false := by
      cases hb : isB x
      · rfl
      · exact absurd (isB_ok hb) h
    rw [if_neg h1, if_neg h2, if_neg h3, if_neg h4, if_neg h5, if_neg h6, kos_eq, bi_some, kI_f hb, if_pos (by decide)]; rfl
theorem g3_iff (x : Int32) : gN x = 3 ↔ x = 99 := by
  unfold gN
  constructor
  · intro h
    by_cases h1 : x = 35
    · rw [if_pos h1] at h; omega
    · rw [if_neg h1] at h
      by_cases h2 : x = 115
      · rw [if_pos h2] at h; omega
      · rw [if_neg h2] at h
        by_cases h3 : x = 99
        · exact h3
        · rw [if_neg h3] at h
          by_cases h4 : x = 97
          · rw [if_pos h4] at h; omega
          · rw [if_neg h4] at h
            by_cases h5 : x = 98
            · rw [if_pos h5] at h; omega
            · rw [if_neg h5] at h; omega
  · rintro rfl; decide
theorem gN_le (x : Int32) : gN x ≤ 5 := by
  unfold gN
  by_cases h1 : x = 35
  · rw [if_pos h1]; omega
  · rw [if_neg h1]
    by_cases h2 : x = 115
    · rw [if_pos h2]; omega
    · rw [if_neg h2]
      by_cases h3 : x = 99
      · rw [if_pos h3]; omega
      · rw [if_neg h3]
        by_cases h4 : x = 97
        · rw [if_pos h4]; omega
        · rw [if_neg h4]
          by_cases h5 : x = 98
          · rw [if_pos h5]; omega
          · rw [if_neg h5]; omega
theorem kN_le (x : Int32) : kN x ≤ 2 := by
  unfold kN
  by_cases h1 : x = 100
  · rw [if_pos h1]; omega
  · rw [if_neg h1]
    by_cases h2 : x = 108
    · rw [if_pos h2]; omega
    · rw [if_neg h2]; omega
/-! the class's reader -/
theorem opr_eq (σ : Mem) {p w : Nat} (hp : 3 ≤ p) (hp2 : p < 1000) (hw : w < 10) : FX7_opensRow σ (nI p) (nI w) = some (if (p - 3) % (w + 1) = 0 then 1 else 0, σ) := by
  unfold FX7_opensRow dzI
  rw [if_neg (nI_pos (by omega)), nI_1, if_neg (nI_ne0 (by omega) (by omega)), show (3 : Int32) = nI 3 from rfl, pk_sub hp, pk_md (by omega) (by omega) (by omega)]
  have hlt : (p - 3) % (w + 1) < w + 1 := Nat.mod_lt _ (by omega)
  by_cases h : (p - 3) % (w + 1) = 0
  · rw [if_pos h, h, if_pos (show nI 0 = 0 from rfl)]; rfl
  · rw [if_neg h, if_neg (nI_ne0 (by omega) (by omega))]; rfl
theorem fit_0 (σ : Mem) (x a b : Int32) : FX7_fits σ x (nI 0) a b = some (if x = 105 then 1 else 0, σ) := by
  unfold FX7_fits
  rw [if_pos (show nI 0 = 0 from rfl)]
  by_cases h : x = 105
  · rw [if_pos h, if_pos h]; rfl
  · rw [if_neg h, if_neg h]; rfl
abbrev dgX (x : Int32) : Prop := 51 ≤ x.toInt ∧ x.toInt ≤ 54
theorem dgX_n {x : Int32} (h : dgX x) : ∃ d, 3 ≤ d ∧ d ≤ 6 ∧ x = nI (d + 48) ∧ x - 48 = nI d := by
  obtain ⟨k, hk, rfl⟩ := blk2 (n := 54) (a := x) ⟨by have := h.1; omega, h.2⟩
  have h1 := h.1
  rw [nI_toInt (by omega)] at h1
  refine ⟨k - 48, by omega, by omega, by rw [show k - 48 + 48 = k by omega], ?_⟩
  rw [show (48 : Int32) = nI 48 from rfl, pk_sub (by omega)]
theorem fit_d (σ : Mem) (x a b : Int32) {p : Nat} (hp : p = 1 ∨ p = 2) : FX7_fits σ x (nI p) a b = some (if dgX x then 1 else 0, σ) := by
  unfold FX7_fits
  rw [if_neg (nI_ne0 (by omega) (by omega)), if_neg (show ¬ (3 : Int32) ≤ nI p from nI_ge (b := 3) (by omega) (by omega))]
  by_cases h1 : x < 51
  · rw [if_pos h1, if_neg (by rw [toInt_lt] at h1; intro q; exact absurd h1 (Int.not_lt.mpr q.1))]; rfl
  · rw [if_neg h1]
    by_cases h2 : 54 < x
    · rw [if_pos h2, if_neg (by rw [toInt_lt] at h2; intro q; exact absurd h2 (Int.not_lt.mpr q.2))]; rfl
    · rw [if_neg h2, if_pos (by rw [toInt_lt] at h1 h2; exact ⟨Int.not_lt.mp h1, Int.not_lt.mp h2⟩)]; rfl
theorem fit_s (σ : Mem) (x : Int32) {p h w : Nat} (hp : 3 ≤ p) (hp2 : p < 1000) (hh : h < 10) (hw : w < 10) : FX7_fits σ x (nI p) (nI h) (nI w) = some (if p < 3 + h * (w + 1) then (if (p - 3) % (w + 1) = 0 then (if x = 59 then 1 else 0) else (if okS x = true then 1 else 0)) else 0, σ) := by
  have hb : h * (w + 1) ≤ 9 * 10 := Nat.mul_le_mul (by omega) (by omega)
  unfold FX7_fits
  rw [if_neg (nI_ne0 (by omega) (by omega)), if_pos (show (3 : Int32) ≤ nI p from nI_le (a := 3) hp (by omega)), nI_1, pk_mul, show (3 : Int32) + nI (h * (w + 1)) = nI (3 + h * (w + 1)) from nI_add 3 _, opr_eq σ hp hp2 hw, bi_some]
  by_cases h1 : p < 3 + h * (w + 1)
  · rw [if_pos h1, if_pos (nI_lt h1 (by omega))]
    by_cases h2 : (p - 3) % (w + 1) = 0
    · rw [if_pos h2, if_pos h2, if_neg (show ¬ (1 : Int32) = 0 by decide)]
      by_cases h3 : x = 59
      · rw [if_pos h3, if_pos h3]; rfl
      · rw [if_neg h3, if_neg h3]; rfl
    · rw [if_neg h2, if_neg h2, if_pos rfl, issg_eq, bi_some, rz_b01]
  · rw [if_neg h1, if_neg (by rw [toInt_lt, nI_toInt (by omega), nI_toInt (by omega)]; omega)]; rfl

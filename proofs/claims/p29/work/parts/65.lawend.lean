/-! ===== the law's last part: where the blocks are; what is refused ===== -/
def DisD (Y : Yd) (D : Dy) : Prop := ∀ i j, i < db Y → j < db Y → i ≠ j → D.1 i < 36 → D.1 i ≠ D.1 j
/-- the law's arrays and the class, one yard -/
def Lw (A : As) (y g l : Nat → Int32) (f : Int64) : Prop := WA A ∧ LawY (aY A) y g ∧ EncM (aY A) (aD A) l f ∧ db (aY A) ≤ 3 ∧ (3 ≤ dh (aY A) ∧ dh (aY A) ≤ 5 ∧ 3 ≤ dw (aY A) ∧ dw (aY A) ≤ 5) ∧ DisD (aY A) (aD A)
theorem stB2 {R : Type} {n : Nat} (h : 2 < n) (hn : n < 2 ^ 31) (f : Nat → Int64) (v : Int64) (g : (Nat → Int64) → Option R) : stB (2 : Int32) n f v g = g (vp_updL f 2 v) := stB_in (j := 2) h hn f v g
theorem bz_i {R : Type} (v : Int32) (h : v = 0 ∨ v = 1) (f : Int32 → Option R) : bz (some v) f = f v := if_pos h
theorem bzb {R : Type} (b : Bool) (f : Int32 → Option R) : bz (some (bI b)) f = f (bI b) := bz_i _ (by cases b <;> decide) f
theorem i_and1 (x : Int32) : x &&& 1 = 0 ∨ x &&& 1 = 1 := by
  have key : (x &&& 1).toBitVec = 0#32 ∨ (x &&& 1).toBitVec = 1#32 := by
    rw [Int32.toBitVec_and]
    show x.toBitVec &&& 1#32 = 0#32 ∨ x.toBitVec &&& 1#32 = 1#32
    cases hb : x.toBitVec.getLsbD 0
    · left
      apply BitVec.eq_of_getLsbD_eq
      intro i hi
      rw [BitVec.getLsbD_and, BitVec.getLsbD_one, BitVec.getLsbD_zero]
      by_cases h0 : i = 0
      · subst h0; rw [hb]; rfl
      · simp [h0]
    · right
      apply BitVec.eq_of_getLsbD_eq
      intro i hi
      rw [BitVec.getLsbD_and, BitVec.getLsbD_one]
      by_cases h0 : i = 0
      · subst h0; rw [hb]; rfl
      · simp [h0]
  rcases key with h | h
  · exact .inl (Int32.toBitVec_inj.mp h)
  · exact .inr (Int32.toBitVec_inj.mp h)
theorem cell_tot (L : Nat) (hL : L ≤ 260) (xs0 : Nat → Int32) (k : Nat) (hk : k < 1000) : ∃ v, FL_cell L xs0 (nI k) = some v := by
  unfold FL_cell
  by_cases h : L ≤ k
  · exact ⟨_, if_pos (show Int32.ofNat L ≤ nI k from nI_le h (by omega))⟩
  · rw [if_neg (show ¬ Int32.ofNat L ≤ nI k from nI_ge (by omega) (by omega)), rd_in (by omega) (by omega)]
    exact ⟨_, rfl⟩
theorem t_1873 {L : Nat} {xs0 : Nat → Int32} {A : As} {y g l : Nat → Int32} {f : Int64} (hw : Lw A y g l f) {σ : Mem} (hX : RX A σ) : ∀ (m i fuel n : Nat), i + m = db (aY A) → m < fuel → FL_law_1873 L xs0 fuel σ n y l (nI i) = some 1 := by
  obtain ⟨hA, hY, hE, h3, hd, hdis⟩ := hw
  have h6 := hA.1.2.1
  intro m
  induction m with
  | zero =>
    intro i fuel n hi hf
    obtain ⟨f, rfl⟩ : ∃ f, fuel = f + 1 := ⟨fuel - 1, by omega⟩
    show BL_law_1873 L xs0 (FL_law_1873 L xs0 f) σ n y l (nI i) = _
    unfold BL_law_1873
    rw [rd2 (by decide) (by decide), hY.2.2.1, if_pos (nI_le (by omega) (by omega)), few_2, bi_some, if_pos rfl, won_m, bi_some, if_pos rfl, rd2 (by decide) (by decide), hY.2.2.1, sand_bad hA hX, bi_some, if_pos rfl]
  | succ m ih =>
    intro i fuel n hi hf
    obtain ⟨f, rfl⟩ : ∃ f, fuel = f + 1 := ⟨fuel - 1, by omega⟩
    show BL_law_1873 L xs0 (FL_law_1873 L xs0 f) σ n y l (nI i) = _
    unfold BL_law_1873
    rw [rd2 (by decide) (by decide), hY.2.2.1, if_neg (nI_ge (by omega) (by omega)), ofb_x hA hX (by omega), bi_some, rd_in (by omega) (by decide), hE.1 i (by omega), plM_in (by omega), if_pos rfl, nm_eq, nI_1]
    exact ih (i + 1) f n (by omega) (by omega)

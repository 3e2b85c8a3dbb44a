/-! ===== many ===== -/
def popN (n : Nat) : Nat :=
  (fun x7 : Nat => (fun x8 : Nat => (fun x9 : Nat => (fun x10 : Nat => (fun x11 : Nat => (x11 + x11 / 4294967296) % 128) (x10 + x10 / 65536)) (x9 + x9 / 256)) ((x8 + x8 / 16) &&& 1085102592571150095)) ((x7 &&& 3689348814741910323) + (x7 / 4 &&& 3689348814741910323))) (n - (n / 2 &&& 6148914691236517205))
theorem andL (a b : Nat) : lN a &&& lN b = lN (a &&& b) := by
  apply Int64.toBitVec_inj.mp
  rw [Int64.toBitVec_and]
  apply BitVec.eq_of_getLsbD_eq
  intro i hi
  show ((BitVec.ofNat 64 a) &&& (BitVec.ofNat 64 b)).getLsbD i = (BitVec.ofNat 64 (a &&& b)).getLsbD i
  rw [BitVec.getLsbD_and, BitVec.getLsbD_ofNat, BitVec.getLsbD_ofNat, BitVec.getLsbD_ofNat, Nat.testBit_and]
  simp [hi]
theorem andI (a b : Nat) : nI a &&& nI b = nI (a &&& b) := by
  apply Int32.toBitVec_inj.mp
  rw [Int32.toBitVec_and]
  apply BitVec.eq_of_getLsbD_eq
  intro i hi
  show ((BitVec.ofNat 32 a) &&& (BitVec.ofNat 32 b)).getLsbD i = (BitVec.ofNat 32 (a &&& b)).getLsbD i
  rw [BitVec.getLsbD_and, BitVec.getLsbD_ofNat, BitVec.getLsbD_ofNat, BitVec.getLsbD_ofNat, Nat.testBit_and]
  simp [hi]
theorem shrL {n k : Nat} (hn : n < 2 ^ 64) (hk : k < 64) : ((lN n).toUInt64 >>> ((nI k).toInt64.toUInt64 &&& Int64.toUInt64 63)).toInt64 = lN (n / 2 ^ k) := by
  refine w_ext fun i hi => ?_
  rw [w_ushr _ hk, lN_bit, lN_bit, decide_eq_true hi, Bool.true_and, Nat.testBit_div_two_pow]
  by_cases h : k + i < 64
  · rw [decide_eq_true h, Bool.true_and, Nat.add_comm]
  · rw [decide_eq_false h, Bool.false_and, Nat.testBit_lt_two_pow]
    exact Nat.lt_of_lt_of_le hn (Nat.pow_le_pow_right (by decide) (by omega))
noncomputable def chk (n : Nat) : Nat → Nat → Nat → Bool :=
  Nat.rec (fun _ y k => Nat.beq (popN y) k) (fun n ih b y k => Nat.casesOn b (Nat.beq (popN y) k) (fun b' => and (ih (Nat.succ b') y k) (ih b' (y + 2 ^ n) (k + 1)))) n
theorem chk_ok : chk 36 4 0 0 = true := by decide +kernel
def cnt (f : Nat → Bool) : Nat → Nat
  | 0 => 0
  | n + 1 => cnt f n + if f n then 1 else 0
def sumB (f : Nat → Bool) : Nat → Nat
  | 0 => 0
  | n + 1 => sumB f n + if f n then 2 ^ n else 0
theorem cnt_0 {f : Nat → Bool} : ∀ {n : Nat}, cnt f n = 0 → sumB f n = 0 := by
  intro n
  induction n with
  | zero => intro _; rfl
  | succ n ih =>
    intro h
    unfold cnt at h
    unfold sumB
    cases hf : f n
    · rw [ih (by omega)]; rfl
    · rw [hf, if_pos rfl] at h; omega
theorem chk_use {f : Nat → Bool} : ∀ (n b y k : Nat), chk n b y k = true → cnt f n ≤ b → popN (y + sumB f n) = k + cnt f n := by
  intro n
  induction n with
  | zero =>
    intro b y k h _
    exact Nat.eq_of_beq_eq_true h
  | succ n ih =>
    intro b y k h hb
    cases b with
    | zero =>
      have h0 : cnt f (n + 1) = 0 := by omega
      rw [cnt_0 h0, h0]
      exact Nat.eq_of_beq_eq_true h
    | succ b =>
      have h' : (chk n (b + 1) y k && chk n b (y + 2 ^ n) (k + 1)) = true := h
      rw [Bool.and_eq_true] at h'
      unfold cnt at hb
      unfold cnt sumB
      cases hf : f n
      · rw [if_neg (by decide), if_neg (by decide)]
        rw [hf, if_neg (by decide)] at hb
        exact ih (b + 1) y k h'.1 hb
      · rw [if_pos rfl, if_pos rfl]
        rw [hf, if_pos rfl] at hb
        have := ih b (y + 2 ^ n) (k + 1) h'.2 (by omega)
        rw [show y + (sumB f n + 2 ^ n) = y + 2 ^ n + sumB f n by omega, this]
        omega
theorem sum_lt (f : Nat → Bool) : ∀ n, sumB f n < 2 ^ n := by
  intro n
  induction n with
  | zero => exact Nat.one_pos
  | succ n ih =>
    unfold sumB
    rw [Nat.pow_succ]
    by_cases h : f n = true
    · rw [if_pos h]; omega
    · rw [if_neg h]; omega
theorem sum_bit (f : Nat → Bool) : ∀ n i, (sumB f n).testBit i = (decide (i < n) && f i) := by
  intro n
  induction n with
  | zero => intro i; show Nat.testBit 0 i = _; rw [Nat.zero_testBit]; simp
  | succ n ih =>
    intro i
    have hl := sum_lt f n
    have hl1 := sum_lt f (n + 1)
    by_cases h : i = n
    · subst h
      unfold sumB
      cases hf : f i
      · rw [if_neg (by decide), Nat.add_zero, Nat.testBit_lt_two_pow hl, Bool.and_false]
      · rw [if_pos rfl, Nat.add_comm, Nat.testBit_two_pow_add_eq, Nat.testBit_lt_two_pow hl]; simp
    · by_cases h2 : i < n
      · rw [decide_eq_true (by omega)]
        unfold sumB
        cases hf : f n
        · rw [if_neg (by decide), Nat.add_zero, ih, decide_eq_true h2]
        · rw [if_pos rfl, Nat.add_comm, Nat.testBit_two_pow_add_gt h2, ih, decide_eq_true h2]
      · rw [Nat.testBit_lt_two_pow (Nat.lt_of_lt_of_le hl1 (Nat.pow_le_pow_right (by decide) (by omega))), decide_eq_false (by omega), Bool.false_and]
theorem cnt_le {f g : Nat → Bool} : ∀ {n : Nat}, (∀ i, i < n → f i = true → g i = true) → cnt f n ≤ cnt g n := by
  intro n
  induction n with
  | zero => intro _; exact Nat.le_refl _
  | succ n ih =>
    intro h
    unfold cnt
    have := ih fun i hi => h i (by omega)
    cases hf : f n
    · rw [if_neg (by decide)]; omega
    · rw [h n (by omega) hf]; omega
theorem cnt_ext {f : Nat → Bool} {n m : Nat} (hn : n ≤ m) (h : ∀ i, n ≤ i → f i = false) : cnt f m = cnt f n := by
  obtain ⟨k, rfl⟩ : ∃ k, m = n + k := ⟨m - n, by omega⟩
  induction k with
  | zero => rfl
  | succ k ih =>
    show cnt f (n + k) + (if f (n + k) then 1 else 0) = _
    rw [h (n + k) (by omega), ih (by omega)]; rfl
theorem cnt_fil (p : Nat → Bool) : ∀ n, ((List.range n).filter p).length = cnt p n := by
  intro n
  induction n with
  | zero => rfl
  | succ n ih =>
    rw [List.range_succ, List.filter_append, List.length_append, ih]
    show _ = cnt p n + (if p n then 1 else 0)
    cases h : p n <;> simp [h]
theorem opn_cnt {Y : Yd} (hY : WFY Y) (D : Dy) : cnt (opnD Y D) 36 ≤ 4 ∧ cnt (opnD Y D) 36 = cnt (opnD Y D) (dn Y) := by
  have h36 := dn_le hY
  have e : cnt (opnD Y D) 36 = cnt (opnD Y D) (dn Y) := cnt_ext h36 (fun i hi => by unfold opnD; rw [decide_eq_false (by omega), Bool.false_and, Bool.false_and])
  refine ⟨?_, e⟩
  rw [e]
  refine Nat.le_trans (cnt_le (g := fun c => dg Y c == 3) fun i _ h => ?_) ?_
  · unfold opnD at h
    simp only [Bool.and_eq_true] at h
    exact h.1.2
  · rw [← cnt_fil]
    exact hY.2.2.2.1

/-! ===== many ===== -/
def popN (n : Nat) : Nat :=
  (fun x7 : Nat => (fun x8 : Nat => (fun x9 : Nat => (fun x10 : Nat => (fun x11 : Nat => (x11 + x11 / 4294967296) % 128) (x10 + x10 / 65536)) (x9 + x9 / 256)) ((x8 + x8 / 16) &&& 1085102592571150095)) ((x7 &&& 3689348814741910323) + (x7 / 4 &&& 3689348814741910323))) (n - (n / 2 &&& 6148914691236517205))
theorem andL (a b : Nat) : lN a &&& lN b = lN (a &&& b) := by
  apply Int64.toBitVec_inj.mp
  rw [Int64.toBitVec_and]
  apply BitVec.eq_of_getLsbD_eq
  intro i hi
  show ((BitVec.ofNat 64 a) &&& (BitVec.ofNat 64 b)).getLsbD i = (BitVec.ofNat 64 (a &&& b)).getLsbD i
  rw [BitVec.getLsbD_and, BitVec.getLsbD_ofNat, BitVec.getLsbD_ofNat, BitVec.getLsbD_ofNat, Nat.testBit_and]
  simp [hi]
theorem andI (a b : Nat) : nI a &&& nI b = nI (a &&& b) := by
  apply Int32.toBitVec_inj.mp
  rw [Int32.toBitVec_and]
  apply BitVec.eq_of_getLsbD_eq
  intro i hi
  show ((BitVec.ofNat 32 a) &&& (BitVec.ofNat 32 b)).getLsbD i = (BitVec.ofNat 32 (a &&& b)).getLsbD i
  rw [BitVec.getLsbD_and, BitVec.getLsbD_ofNat, BitVec.getLsbD_ofNat, BitVec.getLsbD_ofNat, Nat.testBit_and]
  simp [hi]
theorem shrL {n k : Nat} (hn : n < 2 ^ 64) (hk : k < 64) : ((lN n).toUInt64 >>> ((nI k).toInt64.toUInt64 &&& Int64.toUInt64 63)).toInt64 = lN (n / 2 ^ k) := by
  refine w_ext fun i hi => ?_
  rw [w_ushr _ hk, lN_bit, lN_bit, decide_eq_true hi, Bool.true_and, Nat.testBit_div_two_pow]
  by_cases h : k + i < 64
  · rw [decide_eq_true h, Bool.true_and, Nat.add_comm]
  · rw [decide_eq_false h, Bool.false_and, Nat.testBit_lt_two_pow]
    exact Nat.lt_of_lt_of_le hn (Nat.pow_le_pow_right (by decide) (by omega))
theorem bc_eq (σ : Mem) {n : Nat} (hn : n < 2 ^ 36) : FJ13_bitCount_95d88 σ (lN n) = some (nI (popN n), σ) := by
  unfold FJ13_bitCount_95d88 popN
  have a1 := Nat.and_le_left (n := n / 2) (m := 6148914691236517205)
  rw [nm_eq, show (1 : Int32) = nI 1 from rfl, shrL (by omega) (by decide), show (6148914691236517205 : Int64) = lN 6148914691236517205 from rfl, andL, show n / 2 ^ 1 = n / 2 from rfl, lN_sub (by omega)]
  generalize hx7 : n - (n / 2 &&& 6148914691236517205) = x7
  have a2 := Nat.and_le_left (n := x7) (m := 3689348814741910323)
  have a3 := Nat.and_le_left (n := x7 / 4) (m := 3689348814741910323)
  rw [nm_eq, show (2 : Int32) = nI 2 from rfl, shrL (by omega) (by decide), show (3689348814741910323 : Int64) = lN 3689348814741910323 from rfl, andL, andL, lN_add, show x7 / 2 ^ 2 = x7 / 4 from rfl]
  generalize hx8 : (x7 &&& 3689348814741910323) + (x7 / 4 &&& 3689348814741910323) = x8
  have a4 := Nat.and_le_right (n := x8 + x8 / 16) (m := 1085102592571150095)
  rw [nm_eq, show (4 : Int32) = nI 4 from rfl, shrL (by omega) (by decide), lN_add, show (1085102592571150095 : Int64) = lN 1085102592571150095 from rfl, andL, show x8 / 2 ^ 4 = x8 / 16 from rfl]
  generalize hx9 : (x8 + x8 / 16) &&& 1085102592571150095 = x9 at a4 ⊢
  rw [nm_eq, show (8 : Int32) = nI 8 from rfl, shrL (by omega) (by decide), lN_add, show x9 / 2 ^ 8 = x9 / 256 from rfl]
  generalize hx10 : x9 + x9 / 256 = x10
  rw [nm_eq, show (16 : Int32) = nI 16 from rfl, shrL (by omega) (by decide), lN_add, show x10 / 2 ^ 16 = x10 / 65536 from rfl]
  generalize hx11 : x10 + x10 / 65536 = x11
  rw [nm_eq, show (32 : Int32) = nI 32 from rfl, shrL (by omega) (by decide), lN_add, show x11 / 2 ^ 32 = x11 / 4294967296 from rfl, lN_i, show (127 : Int32) = nI 127 from rfl, andI]
  rw [show (x11 + x11 / 4294967296) &&& 127 = (x11 + x11 / 4294967296) % 128 from Nat.and_two_pow_sub_one_eq_mod _ 7]
  subst hx11
  subst hx10
  subst hx9
  subst hx8
  subst hx7
  rfl
noncomputable def chk (n : Nat) : Nat → Nat → Nat → Bool :=
  Nat.rec (fun _ y k => Nat.beq (popN y) k) (fun n ih b y k => Nat.casesOn b (Nat.beq (popN y) k) (fun b' => and (ih (Nat.succ b') y k) (ih b' (y + 2 ^ n) (k + 1)))) n
theorem chk_ok : chk 36 4 0 0 = true := by decide +kernel
def cnt (f : Nat → Bool) : Nat → Nat
  | 0 => 0
  | n + 1 => cnt f n + if f n then 1 else 0
def sumB (f : Nat → Bool) : Nat → Nat
  | 0 => 0
  | n + 1 => sumB f n + if f n then 2 ^ n else 0
theorem cnt_0 {f : Nat → Bool} : ∀ {n : Nat}, cnt f n = 0 → sumB f n = 0 := by
  intro n
  induction n with
  | zero => intro _; rfl
  | succ n ih =>
    intro h
    unfold cnt at h
    unfold sumB
    cases hf : f n
    · rw [ih (by omega)]; rfl
    · rw [hf, if_pos rfl] at h; omega
theorem chk_use {f : Nat → Bool} : ∀ (n b y k : Nat), chk n b y k = true → cnt f n ≤ b → popN (y + sumB f n) = k + cnt f n := by
  intro n
  induction n with
  | zero =>
    intro b y k h _
    exact Nat.eq_of_beq_eq_true h
  | succ n ih =>
    intro b y k h hb
    cases b with
    | zero =>
      have h0 : cnt f (n + 1) = 0 := by omega
      rw [cnt_0 h0, h0]
      exact Nat.eq_of_beq_eq_true h
    | succ b =>
      have h' : (chk n (b + 1) y k && chk n b (y + 2 ^ n) (k + 1)) = true := h
      rw [Bool.and_eq_true] at h'
      unfold cnt at hb
      unfold cnt sumB
      cases hf : f n
      · rw [if_neg (by decide), if_neg (by decide)]
        rw [hf, if_neg (by decide)] at hb
        exact ih (b + 1) y k h'.1 hb
      · rw [if_pos rfl, if_pos rfl]
        rw [hf, if_pos rfl] at hb
        have := ih b (y + 2 ^ n) (k + 1) h'.2 (by omega)
        rw [show y + (sumB f n + 2 ^ n) = y + 2 ^ n + sumB f n by omega, this]
        omega
theorem sum_lt (f : Nat → Bool) : ∀ n, sumB f n < 2 ^ n := by
  intro n
  induction n with
  | zero => exact Nat.one_pos
  | succ n ih =>
    unfold sumB
    rw [Nat.pow_succ]
    by_cases h : f n = true
    · rw [if_pos h]; omega
    · rw [if_neg h]; omega
theorem sum_bit (f : Nat → Bool) : ∀ n i, (sumB f n).testBit i = (decide (i < n) && f i) := by
  intro n
  induction n with
  | zero => intro i; show Nat.testBit 0 i = _; rw [Nat.zero_testBit]; simp
  | succ n ih =>
    intro i
    have hl := sum_lt f n
    have hl1 := sum_lt f (n + 1)
    by_cases h : i = n
    · subst h
      unfold sumB
      cases hf : f i
      · rw [if_neg (by decide), Nat.add_zero, Nat.testBit_lt_two_pow hl, Bool.and_false]
      · rw [if_pos rfl, Nat.add_comm, Nat.testBit_two_pow_add_eq, Nat.testBit_lt_two_pow hl]; simp
    · by_cases h2 : i < n
      · rw [decide_eq_true (by omega)]
        unfold sumB
        cases hf : f n
        · rw [if_neg (by decide), Nat.add_zero, ih, decide_eq_true h2]
        · rw [if_pos rfl, Nat.add_comm, Nat.testBit_two_pow_add_gt h2, ih, decide_eq_true h2]
      · rw [Nat.testBit_lt_two_pow (Nat.lt_of_lt_of_le hl1 (Nat.pow_le_pow_right (by decide) (by omega))), decide_eq_false (by omega), Bool.false_and]
theorem cnt_le {f g : Nat → Bool} : ∀ {n : Nat}, (∀ i, i < n → f i = true → g i = true) → cnt f n ≤ cnt g n := by
  intro n
  induction n with
  | zero => intro _; exact Nat.le_refl _
  | succ n ih =>
    intro h
    unfold cnt
    have := ih fun i hi => h i (by omega)
    cases hf : f n
    · rw [if_neg (by decide)]; omega
    · rw [h n (by omega) hf]; omega
theorem cnt_ext {f : Nat → Bool} {n m : Nat} (hn : n ≤ m) (h : ∀ i, n ≤ i → f i = false) : cnt f m = cnt f n := by
  obtain ⟨k, rfl⟩ : ∃ k, m = n + k := ⟨m - n, by omega⟩
  induction k with
  | zero => rfl
  | succ k ih =>
    show cnt f (n + k) + (if f (n + k) then 1 else 0) = _
    rw [h (n + k) (by omega), ih (by omega)]; rfl
theorem cnt_fil (p : Nat → Bool) : ∀ n, ((List.range n).filter p).length = cnt p n := by
  intro n
  induction n with
  | zero => rfl
  | succ n ih =>
    rw [List.range_succ, List.filter_append, List.length_append, ih]
    show _ = cnt p n + (if p n then 1 else 0)
    cases h : p n <;> simp [h]
theorem opn_cnt {Y : Yd} (hY : WFY Y) (D : Dy) : cnt (opnD Y D) 36 ≤ 4 ∧ cnt (opnD Y D) 36 = cnt (opnD Y D) (dn Y) := by
  have h36 := dn_le hY
  have e : cnt (opnD Y D) 36 = cnt (opnD Y D) (dn Y) := cnt_ext h36 (fun i hi => by unfold opnD; rw [decide_eq_false (by omega), Bool.false_and, Bool.false_and])
  refine ⟨?_, e⟩
  rw [e]
  refine Nat.le_trans (cnt_le (g := fun c => dg Y c == 3) fun i _ h => ?_) ?_
  · unfold opnD at h
    simp only [Bool.and_eq_true] at h
    exact h.1.2
  · rw [← cnt_fil]
    exact hY.2.2.2.1
theorem cop_loop {Y : Yd} (hY : WFY Y) {D : Dy} {τ : Mem} (hM : MS' Y τ) (hf : ∀ i, bit64 (τ.2 0 8) i = filM Y D i) : ∀ (m i fuel : Nat), i + m = dn Y → m < fuel → FX9_cracksOpen_4 fuel τ (nI (cnt (opnD Y D) i)) (nI i) = some (nI (cnt (opnD Y D) (dn Y)), τ) := by
  have h36 := dn_le hY
  intro m
  induction m with
  | zero =>
    intro i fuel hi hfu
    obtain ⟨f, rfl⟩ : ∃ f, fuel = f + 1 := ⟨fuel - 1, by omega⟩
    show BX9_cracksOpen_4 (FX9_cracksOpen_4 f) τ _ (nI i) = _
    unfold BX9_cracksOpen_4
    rw [cem_eq hM, bi_some, if_pos (nI_le (by omega) (by omega)), show i = dn Y by omega]
  | succ m ih =>
    intro i fuel hi hfu
    obtain ⟨f, rfl⟩ : ∃ f, fuel = f + 1 := ⟨fuel - 1, by omega⟩
    show BX9_cracksOpen_4 (FX9_cracksOpen_4 f) τ _ (nI i) = _
    have hi2 : i < dn Y := by omega
    have h5 := hY.2.2.1 i hi2
    have ih' := ih (i + 1) f (by omega) (by omega)
    have hst : cnt (opnD Y D) (i + 1) = cnt (opnD Y D) i + if opnD Y D i then 1 else 0 := rfl
    unfold BX9_cracksOpen_4
    rw [cem_eq hM, bi_some, if_neg (nI_ge (by omega) (by omega)), rd_in (by omega) (by decide), hM.2.2.2.1 i hi2]
    by_cases h3 : dg Y i = 3
    · rw [h3, if_pos (show nI 3 = (3 : Int32) from rfl)]
      have hfi := hf i
      unfold filM at hfi
      rw [decide_eq_true hi2, h3] at hfi
      have ho : opnD Y D i = !D.2 i := by unfold opnD; rw [decide_eq_true hi2, h3]; rfl
      cases hF : D.2 i
      · rw [if_pos ((hs1_0 _ (by omega)).mpr (by rw [hfi, hF]; rfl)), nm_eq, nm_eq, nI_1, nI_1]
        rw [hst, ho, hF] at ih'
        exact ih'
      · rw [if_neg (fun q => by rw [hs1_0 _ (by omega), hfi, hF] at q; cases q), nm_eq, nm_eq, i_add0, nI_1]
        rw [hst, ho, hF] at ih'
        exact ih'
    · rw [if_neg (show ¬ nI (dg Y i) = (3 : Int32) from fun q => h3 ((nI_eq (b := 3) (by omega) (by decide)).mp q)), nm_eq, nm_eq, i_add0, nI_1]
      have ho : opnD Y D i = false := by unfold opnD; rw [beq_false_of_ne h3]; simp
      rw [hst, ho] at ih'
      exact ih'
theorem sim_many : Sim_many RelW := by
  intro σ τ a h
  obtain ⟨A, hA, hX, hM⟩ := id h
  have h36 := dn_le hA.1
  unfold FX8_many FX9_many
  by_cases h0 : a = (0 : Int32)
  · rw [if_pos h0, if_pos h0, hX.1.1, hM.1.1]; exact ⟨_, _, _, rfl, rfl, h⟩
  rw [if_neg h0, if_neg h0]
  by_cases h1 : a = (1 : Int32)
  · rw [if_pos h1, if_pos h1, hX.1.2.1, hM.1.2.1]; exact ⟨_, _, _, rfl, rfl, h⟩
  rw [if_neg h1, if_neg h1]
  by_cases h2 : a = (2 : Int32)
  · rw [if_pos h2, if_pos h2, hX.1.2.2.1, hM.1.2.2.1]; exact ⟨_, _, _, rfl, rfl, h⟩
  rw [if_neg h2, if_neg h2]
  by_cases h3 : a = (3 : Int32)
  · rw [if_pos h3, if_pos h3]
    obtain ⟨o, ho, hb⟩ := opn_eq hA.1 hX.1 hX.2.1
    obtain ⟨c4, c36⟩ := opn_cnt hA.1 (aD A)
    have hl := sum_lt (opnD (aY A) (aD A)) 36
    have e : o = lN (sumB (opnD (aY A) (aD A)) 36) := w_ext fun i hi => by
      rw [hb, lN_bit, decide_eq_true hi, Bool.true_and, sum_bit]
      by_cases q : i < 36
      · rw [decide_eq_true q, Bool.true_and]
      · rw [decide_eq_false q, Bool.false_and]
        unfold opnD
        rw [decide_eq_false (by omega), Bool.false_and, Bool.false_and]
    have hp := chk_use (f := opnD (aY A) (aD A)) 36 4 0 0 chk_ok c4
    rw [Nat.zero_add, Nat.zero_add] at hp
    rw [ho, bi_some, e, bc_eq _ hl, bi_some, hp, c36]
    have := cop_loop hA.1 hM.1 hM.2.1.2 (dn (aY A)) 0 FU (Nat.zero_add _) (by show _ < 10000000; omega)
    unfold FX9_cracksOpen
    rw [show FX9_cracksOpen_4 FU τ 0 0 = _ from this, bi_some]
    exact ⟨_, _, _, rfl, rfl, h⟩
  rw [if_neg h3, if_neg h3]
  by_cases h4 : a = (4 : Int32)
  · rw [if_pos h4, if_pos h4, show σ.1 0 10 = nI (aN A) from hX.2.2.1.1, show τ.1 0 22 = nI (aN A) from hM.2.2.1.1]; exact ⟨_, _, _, rfl, rfl, h⟩
  rw [if_neg h4, if_neg h4]
  exact ⟨_, _, _, rfl, rfl, h⟩

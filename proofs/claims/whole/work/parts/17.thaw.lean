/-! ===== thaw, copy ===== -/
def tha (P : Nat → Bool) : Nat → Nat → Int32 → Int32
  | _, 0, s => s
  | i, m + 1, s => tha P (i + 1) m (if P i then s ||| ((1 : Int32) <<< (nI i &&& 31)) else s)
def lostP (Y : Yd) (D : Dy) (t k : Nat) : Bool := decide (D.1 k < 36) && decide ((dh Y - min (dh Y) (t / 2)) * dw Y ≤ D.1 k)
theorem tha_x {Y : Yd} (hY : WFY Y) {D : Dy} (hD : WFD Y D) {σ : Mem} (hS : XS Y σ) (h : EncX Y D (σ.2 0 9)) (t : Nat) : ∀ (m i fuel : Nat) (s : Int32), i + m = db Y → m < fuel → FX8_thaw_51 fuel σ (nI ((dh Y - min (dh Y) (t / 2)) * dw Y)) s (nI i) = some (tha (lostP Y D t) i m s, σ) := by
  have h6 := hY.2.1
  have h36 := dn_le hY
  have hb : (dh Y - min (dh Y) (t / 2)) * dw Y ≤ 36 := Nat.le_trans (Nat.mul_le_mul_right _ (Nat.sub_le _ _)) h36
  intro m
  induction m with
  | zero =>
    intro i fuel s hi hf
    obtain ⟨f, rfl⟩ : ∃ f, fuel = f + 1 := ⟨fuel - 1, by omega⟩
    show BX8_thaw_51 (FX8_thaw_51 f) σ _ s (nI i) = _
    unfold BX8_thaw_51
    rw [hS.2.2.1, if_pos (nI_le (by omega) (by omega))]
    rfl
  | succ m ih =>
    intro i fuel s hi hf
    obtain ⟨f, rfl⟩ : ∃ f, fuel = f + 1 := ⟨fuel - 1, by omega⟩
    show BX8_thaw_51 (FX8_thaw_51 f) σ _ s (nI i) = some (tha (lostP Y D t) (i + 1) m _, σ)
    have hlt := wfd_lt hY hD (show i < db Y by omega)
    unfold BX8_thaw_51
    rw [hS.2.2.1, if_neg (nI_ge (by omega) (by omega)), pof_eq hY hD h (by omega), bi_some]
    by_cases e : D.1 i < 36
    · rw [if_neg (show ¬ (36 : Int32) ≤ nI (D.1 i) from nI_ge (b := 36) (by omega) (by omega))]
      by_cases e2 : (dh Y - min (dh Y) (t / 2)) * dw Y ≤ D.1 i
      · rw [if_neg (nI_nlt e2 (by omega)), nm_eq, nm_eq, nI_1, ih (i + 1) f _ (by omega) (by omega), show lostP Y D t i = true by unfold lostP; rw [decide_eq_true e, decide_eq_true e2]; rfl, if_pos rfl]
      · rw [if_pos (nI_lt (by omega) (by omega)), nm_eq, nI_1, ih (i + 1) f _ (by omega) (by omega), show lostP Y D t i = false by unfold lostP; rw [decide_eq_false e2, Bool.and_false], if_neg (by decide)]
    · rw [if_pos (show (36 : Int32) ≤ nI (D.1 i) from nI_le (a := 36) (by omega) (by omega)), nm_eq, nI_1, ih (i + 1) f _ (by omega) (by omega), show lostP Y D t i = false by unfold lostP; rw [decide_eq_false e, Bool.false_and], if_neg (by decide)]
theorem i_or0 (s : Int32) : s ||| 0 = s := Int32.toBitVec_inj.mp (by rw [Int32.toBitVec_or]; exact BitVec.or_zero)
theorem lost_iff {h w p t : Nat} (hw : 0 < w) (hp : p < h * w) : (h - min h (t / 2)) * w ≤ p ↔ 2 * (h - p / w) ≤ t := by
  have h1 : p / w < h := (Nat.div_lt_iff_lt_mul hw).mpr hp
  rw [← Nat.le_div_iff_mul_le hw]
  generalize p / w = r at h1 ⊢
  omega
theorem tha_m {Y : Yd} (hY : WFY Y) {D : Dy} (hD : WFD Y D) {τ : Mem} (hS : MS' Y τ) (hl : ∀ k, k < db Y → τ.1 4 k = lieI (D.1 k)) {t : Nat} (ht : t ≤ 20) : ∀ (m i fuel : Nat) (s : Int32), i + m = db Y → m < fuel → FX9_thaw_19 fuel τ (nI t) s (nI i) = some (tha (lostP Y D t) i m s, τ) := by
  have h6 := hY.2.1
  have h36 := dn_le hY
  intro m
  induction m with
  | zero =>
    intro i fuel s hi hf
    obtain ⟨f, rfl⟩ : ∃ f, fuel = f + 1 := ⟨fuel - 1, by omega⟩
    show BX9_thaw_19 (FX9_thaw_19 f) τ _ s (nI i) = _
    unfold BX9_thaw_19
    rw [hS.2.2.1, if_pos (nI_le (by omega) (by omega))]
    rfl
  | succ m ih =>
    intro i fuel s hi hf
    obtain ⟨f, rfl⟩ : ∃ f, fuel = f + 1 := ⟨fuel - 1, by omega⟩
    show BX9_thaw_19 (FX9_thaw_19 f) τ _ s (nI i) = some (tha (lostP Y D t) (i + 1) m _, τ)
    have hib : i < db Y := by omega
    have hlt := wfd_lt hY hD hib
    have hw : 3 ≤ dw Y ∧ dw Y ≤ 6 ∧ dh Y ≤ 6 := by rcases hY.1 with q | q <;> omega
    have en : ∀ (n : Nat), n < 100 → FX9_thaw_57 (FX9_thaw_19 f) τ (nI t) s (nI i) (nI n) = some (tha (lostP Y D t) (i + 1) m (if 2 * n ≤ t then s ||| ((1 : Int32) <<< (nI i &&& 31)) else s), τ) := by
      intro n hn
      unfold FX9_thaw_57
      rw [show (2 : Int32) * nI n = nI (2 * n) from pk_mul 2 n]
      by_cases q : 2 * n ≤ t
      · rw [if_neg (nI_nlt q (by omega)), nm_eq, nm_eq, nI_1, ih (i + 1) f _ (by omega) (by omega), if_pos q]
      · rw [if_pos (nI_lt (by omega) (by omega)), nm_eq, nm_eq, nI_1, ih (i + 1) f _ (by omega) (by omega), if_neg q, i_or0]
    unfold BX9_thaw_19
    rw [hS.2.2.1, if_neg (nI_ge (by omega) (by omega)), rd_in (by omega) (by decide), hl i hib]
    by_cases e : D.1 i < 36
    · have hp : D.1 i < dn Y := by rcases hD i hib with q | q | q | q <;> omega
      have hr : D.1 i / dw Y < dh Y := (Nat.div_lt_iff_lt_mul (by omega)).mpr hp
      rw [if_pos ((lie_neg hlt).2.mpr e), rd_in (by omega) (by decide), hl i hib, lie_in e, hS.1, hS.2.1]
      unfold dzI
      rw [if_neg (nI_ne0 (by omega) (by omega)), pk_div (by omega) (by omega) (by omega), pk_sub (Nat.le_of_lt hr), en _ (Nat.lt_of_le_of_lt (Nat.sub_le _ _) (by omega))]
      have hi2 := lost_iff (t := t) (show 0 < dw Y by omega) hp
      by_cases q : 2 * (dh Y - D.1 i / dw Y) ≤ t
      · rw [if_pos q, show lostP Y D t i = true by unfold lostP; rw [decide_eq_true e, decide_eq_true (hi2.mpr q)]; rfl, if_pos rfl]
      · rw [if_neg q, show lostP Y D t i = false by unfold lostP; rw [decide_eq_false (fun z => q (hi2.mp z)), Bool.and_false], if_neg (by decide)]
    · rw [if_neg (fun q => e ((lie_neg hlt).2.mp q)), show (99 : Int32) = nI 99 from rfl, en 99 (by decide), if_neg (by omega), show lostP Y D t i = false by unfold lostP; rw [decide_eq_false e, Bool.false_and], if_neg (by decide)]
theorem sim_thaw : Sim_thaw RelW := by
  intro σ τ a h
  obtain ⟨A, hA, hX, hM⟩ := id h
  have h6 := hA.1.2.1
  have hwh : dw (aY A) ≤ 6 ∧ dh (aY A) ≤ 6 := by rcases hA.1.1 with q | q <;> omega
  by_cases hc : 0 ≤ a.toInt ∧ a.toInt ≤ 20
  · obtain ⟨t, ht, rfl⟩ := blk2 (n := 20) hc
    refine ⟨tha (lostP (aY A) (aD A) t) 0 (db (aY A)) 0, σ, τ, ?_, ?_, h⟩
    · unfold FX8_thaw
      rw [if_neg (nI_pos (by omega)), if_pos (show nI t ≤ (20 : Int32) from nI_le (b := 20) ht (by decide))]
      unfold dzI
      rw [if_neg (by decide), nm_eq, nm_eq, hX.1.1, hX.1.2.1, show nI t / (2 : Int32) = nI (t / 2) from pk_div (d := 2) (by omega) (by decide) (by decide)]
      have e : (if nI (dh (aY A)) < nI (t / 2) then nI (dh (aY A)) else nI (t / 2)) = nI (min (dh (aY A)) (t / 2)) := by
        by_cases q : dh (aY A) < t / 2
        · rw [if_pos (nI_lt q (by omega)), Nat.min_eq_left (by omega)]
        · rw [if_neg (nI_nlt (by omega) (by omega)), Nat.min_eq_right (by omega)]
      rw [e, pk_sub (Nat.min_le_left _ _), pk_mul]
      exact tha_x hA.1 hA.2.1 hX.1 hX.2.1 t (db (aY A)) 0 FU 0 (Nat.zero_add _) (by show _ < 10000000; omega)
    · unfold FX9_thaw
      rw [in_eq, i64_toInt, show (0 : Int64).toInt = 0 from rfl, show (20 : Int64).toInt = 20 from rfl, if_pos hc, bi_some, if_neg (by decide)]
      exact tha_m hA.1 hA.2.1 hM.1 (rm_l hM h6) ht (db (aY A)) 0 FU 0 (Nat.zero_add _) (by show _ < 10000000; omega)
  · refine ⟨-2, σ, τ, ?_, ?_, h⟩
    · unfold FX8_thaw
      by_cases h1 : a < 0
      · rw [if_pos h1]
      · rw [if_neg h1, if_neg (by rw [toInt_lt] at h1; rw [toInt_le]; change ¬ a.toInt < 0 at h1; show ¬ a.toInt ≤ 20; omega)]
    · unfold FX9_thaw
      rw [in_eq, i64_toInt, show (0 : Int64).toInt = 0 from rfl, show (20 : Int64).toInt = 20 from rfl, if_neg hc, bi_some, if_pos rfl]
/-! copy -/
def bey (n : Nat) (i m : Int32) : Prop := 0 ≤ i.toInt ∧ 0 ≤ m.toInt ∧ i.toInt + m.toInt ≤ n
theorem bey_d (n : Nat) (i m : Int32) : bey n i m ∨ ¬ bey n i m := Classical.em _
theorem hcs_t {o n : Nat} {σ : Mem} (h : σ.1 o 2 = nI n) (hn : n ≤ 60) {i m : Int32} (hb : bey n i m) : FX5_hasCells o σ i m = some (1, σ) := by
  obtain ⟨b1, b2, b3⟩ := hb
  obtain ⟨i', hi', rfl⟩ := blk2 (n := n) (a := i) (by omega)
  obtain ⟨m', hm', rfl⟩ := blk2 (n := n) (a := m) (by omega)
  rw [nI_toInt (by omega), nI_toInt (by omega)] at b3
  unfold FX5_hasCells
  rw [if_neg (nI_pos (by omega)), if_neg (nI_pos (by omega)), h, if_neg (nI_nlt (by omega) (by omega)), pk_sub (by omega), if_neg (nI_nlt (by omega) (by omega))]
  rfl
theorem hcs_f {o n : Nat} {σ : Mem} (h : σ.1 o 2 = nI n) (hn : n ≤ 60) {i m : Int32} (hb : ¬ bey n i m) : FX5_hasCells o σ i m = some (0, σ) := by
  unfold FX5_hasCells
  have ht : (nI n).toInt = n := nI_toInt (by omega)
  by_cases h1 : i < 0
  · rw [if_pos h1]; rfl
  · rw [if_neg h1]
    rw [toInt_lt] at h1
    change ¬ i.toInt < 0 at h1
    by_cases h2 : m < 0
    · rw [if_pos h2]; rfl
    · rw [if_neg h2, h]
      rw [toInt_lt] at h2
      change ¬ m.toInt < 0 at h2
      by_cases h3 : nI n < i
      · rw [if_pos h3]; rfl
      · rw [if_neg h3]
        rw [toInt_lt, ht] at h3
        obtain ⟨i', hi', rfl⟩ := blk2 (n := n) (a := i) (by omega)
        rw [pk_sub hi', if_pos]
        · rfl
        · rw [toInt_lt, nI_toInt (by omega)]
          rw [nI_toInt (by omega)] at h1 h3
          unfold bey at hb
          rw [nI_toInt (by omega)] at hb
          omega
theorem bey_t {n : Nat} (hn : n ≤ 60) (τ : Mem) {i m : Int32} (hb : bey n i m) : FX9_isBeyond τ i (m.toInt64) (nI n) = some (0, τ) := by
  obtain ⟨b1, b2, b3⟩ := hb
  obtain ⟨i', hi', rfl⟩ := blk2 (n := n) (a := i) (by omega)
  obtain ⟨m', hm', rfl⟩ := blk2 (n := n) (a := m) (by omega)
  rw [nI_toInt (by omega), nI_toInt (by omega)] at b3
  unfold FX9_isBeyond
  rw [if_neg (nI_pos (by omega)), if_neg (fun q => by rw [lg_lt, i64_toInt, nI_toInt (by omega)] at q; change (m' : Int) < 0 at q; omega), nI_l (by omega), nI_l (by omega), nI_l (by omega), lN_add, if_pos]
  · rfl
  · rw [toInt_le]
    have : ¬ 0 < lg_cmp (lN (i' + m')) (lN n) := fun q => by
      rw [lg_gt, lN_toInt (by omega), lN_toInt (by omega)] at q; omega
    rw [toInt_lt] at this
    omega
theorem bey_f {n : Nat} (hn : n ≤ 60) (τ : Mem) {i m : Int32} (hb : ¬ bey n i m) : FX9_isBeyond τ i (m.toInt64) (nI n) = some (1, τ) := by
  unfold FX9_isBeyond
  have ri := rng32 i
  have rm := rng32 m
  by_cases h1 : i < 0
  · rw [if_pos h1]; rfl
  · rw [if_neg h1]
    rw [toInt_lt] at h1
    change ¬ i.toInt < 0 at h1
    by_cases h2 : lg_cmp (m.toInt64) 0 < 0
    · rw [if_pos h2]; rfl
    · rw [if_neg h2]
      rw [lg_lt, i64_toInt] at h2
      change ¬ m.toInt < 0 at h2
      rw [if_neg]
      · rfl
      · intro q
        have hs : (i.toInt64 + m.toInt64).toInt = i.toInt + m.toInt := by
          rw [Int64.toInt_add, i64_toInt, i64_toInt]
          exact Int.bmod_eq_of_le (by omega) (by omega)
        have : 0 < lg_cmp (i.toInt64 + m.toInt64) ((nI n).toInt64) := by
          rw [lg_gt, hs, i64_toInt, nI_toInt (by omega)]
          unfold bey at hb
          omega
        rw [toInt_lt] at this
        rw [toInt_le] at q
        omega
/-- the row of hands gets n cells -/
theorem cop_1 (k i o j n : Nat) (hk : k < 4) (hin : i + n ≤ 60) : ∀ (m x fuel : Nat) (τ : Mem), x + m = n → m < fuel → FX9_copy_107 fuel τ (nI k) (nI i) (nI o) (nI j) (nI n) (nI x) = FX9_copy_144 FU (setA τ 31 (fun q => if x ≤ q ∧ q < n then τ.1 30 (60 * k + i + q) else τ.1 31 q)) (nI o) (nI j) (nI n) 0 := by
  intro m
  induction m with
  | zero =>
    intro x fuel τ hi hf
    obtain ⟨f, rfl⟩ : ∃ f, fuel = f + 1 := ⟨fuel - 1, by omega⟩
    show BX9_copy_107 (FX9_copy_107 f) τ _ _ _ _ _ (nI x) = _
    unfold BX9_copy_107
    rw [if_pos (nI_le (by omega) (by omega)), setA_self]
    intro q
    rw [if_neg (by omega)]
  | succ m ih =>
    intro x fuel τ hi hf
    obtain ⟨f, rfl⟩ : ∃ f, fuel = f + 1 := ⟨fuel - 1, by omega⟩
    show BX9_copy_107 (FX9_copy_107 f) τ _ _ _ _ _ (nI x) = _
    unfold BX9_copy_107
    rw [if_neg (nI_ge (by omega) (by omega)), n60, nI_add, rd_in (by omega) (by decide), stI_in (by omega) (by decide), nm_eq, nI_1, ih (x + 1) f _ (by omega) (by omega), setA_setI]
    congr 1
    refine setA_ext fun q => ?_
    rw [setI_ne1 (show 30 ≠ 31 by decide), setI_s1]
    by_cases e : q = x
    · subst e
      rw [if_neg (by omega), if_pos (by omega)]
      simp [upd]
    · by_cases h1 : x + 1 ≤ q ∧ q < n
      · rw [if_pos h1, if_pos (by omega)]
      · rw [if_neg h1, if_neg (by omega)]; simp [upd, e]
theorem cop_2 (o j n : Nat) (ho : o < 4) (hjn : j + n ≤ 60) : ∀ (m x fuel : Nat) (τ : Mem), x + m = n → m < fuel → FX9_copy_144 fuel τ (nI o) (nI j) (nI n) (nI x) = some (nI n, setI (setA τ 30 (fun q => if 60 * o + j + x ≤ q ∧ q < 60 * o + j + n then τ.1 31 (q - (60 * o + j)) else τ.1 30 q)) 0 0 0) := by
  intro m
  induction m with
  | zero =>
    intro x fuel τ hi hf
    obtain ⟨f, rfl⟩ : ∃ f, fuel = f + 1 := ⟨fuel - 1, by omega⟩
    show BX9_copy_144 (FX9_copy_144 f) τ _ _ _ (nI x) = _
    unfold BX9_copy_144
    rw [if_pos (nI_le (by omega) (by omega)), rf_eq, bi_some, setA_self]
    intro q
    rw [if_neg (by omega)]
  | succ m ih =>
    intro x fuel τ hi hf
    obtain ⟨f, rfl⟩ : ∃ f, fuel = f + 1 := ⟨fuel - 1, by omega⟩
    show BX9_copy_144 (FX9_copy_144 f) τ _ _ _ (nI x) = _
    unfold BX9_copy_144
    rw [if_neg (nI_ge (by omega) (by omega)), rd_in (by omega) (by decide), n60, nI_add, stI_in (by omega) (by decide), nm_eq, nI_1, ih (x + 1) f _ (by omega) (by omega), setA_setI]
    refine congrArg (fun z => some (nI n, setI z 0 0 0)) (setA_ext fun q => ?_)
    rw [setI_ne1 (show 31 ≠ 30 by decide), setI_s1]
    by_cases e : q = 60 * o + j + x
    · subst e
      rw [if_neg (by omega), if_pos (by omega), show 60 * o + j + x - (60 * o + j) = x by omega]
      simp [upd]
    · by_cases h1 : 60 * o + j + (x + 1) ≤ q ∧ q < 60 * o + j + n
      · rw [if_pos h1, if_pos (by omega)]
      · rw [if_neg h1, if_neg (by omega)]; simp [upd, e]
/-- the row that n cells come to -/
def copS (s t : Sh) (i j n : Nat) : Option Sh := some (t.1, t.2.1, fun q => if j ≤ q ∧ q < j + n then s.2.2 (i + (q - j)) else t.2.2 q)
theorem sim_copy : Sim_copy RelW := by
  intro σ τ a i b j n h
  obtain ⟨A, hA, hX, hM⟩ := id h
  have hX0 := rx_F hX 0
  have hM0 := rm_F hM 0
  have hRef : RelW (setI σ 0 12 0) (setI τ 0 0 0) := ⟨_, wa_F hA 0, hX0, hM0⟩
  have hF : ∀ f, RelW (setI σ 0 12 f) (setI τ 0 0 f) := fun f => ⟨_, wa_F hA f, rx_F hX f, rm_F hM f⟩
  by_cases hk : 0 ≤ a.toInt ∧ a.toInt < 4
  · obtain ⟨k, hk4, rfl⟩ := blk (n := 4) hk
    by_cases ho : 0 ≤ b.toInt ∧ b.toInt < 4
    · obtain ⟨o, ho4, rfl⟩ := blk (n := 4) ho
      have hx := xc_at hX0.2.2.2.2.1 hk4
      have hm := hM.2.2.2.2.1 k hk4
      have hx' := xc_at hX0.2.2.2.2.1 ho4
      have hm' := hM.2.2.2.2.1 o ho4
      change shX (7 + k) (11 + k) (aS A k) _ at hx
      change shX (7 + o) (11 + o) (aS A o) _ at hx'
      cases hs : aS A k with
      | none =>
        rw [hs] at hx hm
        refine ⟨-11, setI σ 0 12 1, setI τ 0 0 1, ?_, ?_, hF 1⟩
        · unfold FX8_copy
          rw [nm_eq, sat_in _ hk4, bi_some, sh_some (by omega), sat_in _ ho4, bi_some, sh_some (by omega), hno_none hx.1, bi_some, if_neg (show ¬ (1 : Int32) = 0 by decide), fy_eq, bi_some, set2]; rfl
        · unfold FX9_copy
          rw [nsh_eq, if_pos hk, bi_some, if_pos rfl, nsh_eq, if_pos ho, bi_some, if_pos rfl, rd_in hk4 (by decide), show τ.1 28 k = -1 from hm, if_pos m1_lt, fd_eq, bi_some]; rfl
      | some s =>
        rw [hs] at hx hm
        have hw := hA.2.2.2.2.2 k s hk4 hs
        cases ht : aS A o with
        | none =>
          rw [ht] at hx' hm'
          refine ⟨-11, setI σ 0 12 1, setI τ 0 0 1, ?_, ?_, hF 1⟩
          · unfold FX8_copy
            rw [nm_eq, sat_in _ hk4, bi_some, sh_some (by omega), sat_in _ ho4, bi_some, sh_some (by omega), hno_some hx.1 hw.1, bi_some, if_pos rfl, hno_none hx'.1, bi_some, if_neg (show ¬ (1 : Int32) = 0 by decide), fy_eq, bi_some, set2]; rfl
          · unfold FX9_copy
            rw [nsh_eq, if_pos hk, bi_some, if_pos rfl, nsh_eq, if_pos ho, bi_some, if_pos rfl, rd_in hk4 (by decide), hm.1, if_neg (nI_pos (by omega)), rd_in ho4 (by decide), show τ.1 28 o = -1 from hm', if_neg nle_m1, fd_eq, bi_some]; rfl
        | some t =>
          rw [ht] at hx' hm'
          have hw' := hA.2.2.2.2.2 o t ho4 ht
          have hxx : FX8_copy σ (nI k) i (nI o) j n = (if s.1 = t.1 then bi (FX5_hasCells (7 + k) (setI σ 0 12 0) i n) fun r47 σ46 => if r47 = 0 then (bi (FX8_faulty σ46 (3 : Int32)) fun r49 σ48 => some (r49, σ48)) else (bi (FX5_hasCells (7 + o) σ46 j n) fun r51 σ50 => if r51 = 0 then (bi (FX8_faulty σ50 (3 : Int32)) fun r54 σ53 => some (r54, σ53)) else cpA σ50 (7 + k + 4) (7 + o + 4) 60 60 i j n fun σ52 => some (n, σ52)) else some (-12, setI σ 0 12 2)) := by
            unfold FX8_copy
            rw [nm_eq, sat_in _ hk4, bi_some, sh_some (by omega), sat_in _ ho4, bi_some, sh_some (by omega), hno_some hx.1 hw.1, bi_some, if_pos rfl, hno_some hx'.1 hw'.1, bi_some, if_pos rfl, hx.1, hx'.1]
            by_cases e : s.1 = t.1
            · rw [if_pos (by rw [e]), if_pos e]
            · rw [if_neg (fun q => e ((nI_eq (by omega) (by omega)).mp q)), if_neg e, fy_eq, bi_some, set2]; rfl
          have hmm : FX9_copy τ (nI k) i (nI o) j n = (if s.1 = t.1 then bi (FX9_isBeyond τ i (n.toInt64) (nI s.2.1)) fun r59 σ58 => if r59 = 0 then (rd (nI o) 4 fun j62 => bi (FX9_isBeyond σ58 j (n.toInt64) (σ58.1 28 j62)) fun r64 σ63 => if r64 = 0 then FX9_copy_107 FU σ63 (nI k) i (nI o) j n 0 else (bi (FX9_failed σ63 (3 : Int32)) fun r66 σ65 => some (r66, σ65))) else (bi (FX9_failed σ58 (3 : Int32)) fun r61 σ60 => some (r61, σ60)) else some (-12, setI τ 0 0 2)) := by
            unfold FX9_copy
            rw [nsh_eq, if_pos hk, bi_some, if_pos rfl, nsh_eq, if_pos ho, bi_some, if_pos rfl, rd_in hk4 (by decide), hm.1, if_neg (nI_pos (by omega)), rd_in ho4 (by decide), hm'.1, if_pos (nI_pos' (by omega)), rd_in hk4 (by decide), rd_in ho4 (by decide), hm.2.1, hm'.2.1]
            by_cases e : s.1 = t.1
            · rw [if_pos (by rw [e]), if_pos e, rd_in hk4 (by decide), hm.1]
            · rw [if_neg (fun q => e ((nI_eq (by omega) (by omega)).mp q)), if_neg e, fd_eq, bi_some]; rfl
          rw [hxx, hmm]
          by_cases e : s.1 = t.1
          · rw [if_pos e, if_pos e]
            rcases bey_d s.2.1 i n with b1 | b1
            · rcases bey_d t.2.1 j n with b2 | b2
              · obtain ⟨i', hi', rfl⟩ := blk2 (n := s.2.1) (a := i) ⟨b1.1, by have := b1.2.2; have := b1.2.1; omega⟩
                obtain ⟨n', hn', rfl⟩ := blk2 (n := s.2.1) (a := n) ⟨b1.2.1, by have := b1.2.2; have := b1.1; omega⟩
                obtain ⟨j', hj', rfl⟩ := blk2 (n := t.2.1) (a := j) ⟨b2.1, by have := b2.2.2; have := b2.2.1; omega⟩
                have b1' := b1.2.2
                have b2' := b2.2.2
                rw [nI_toInt (by omega), nI_toInt (by omega)] at b1' b2'
                refine ⟨nI n', setA (setI σ 0 12 0) (7 + o + 4) (va_cpy (σ.1 (7 + k + 4)) (σ.1 (7 + o + 4)) i' j' n'), setI (setA (setA τ 31 (fun q => if 0 ≤ q ∧ q < n' then τ.1 30 (60 * k + i' + q) else τ.1 31 q)) 30 (fun q => if 60 * o + j' + 0 ≤ q ∧ q < 60 * o + j' + n' then (if 0 ≤ q - (60 * o + j') ∧ q - (60 * o + j') < n' then τ.1 30 (60 * k + i' + (q - (60 * o + j'))) else τ.1 31 (q - (60 * o + j'))) else τ.1 30 q)) 0 0 0, ?_, ?_, rel_S hA (k := o) (s := copS s t i' j' n') (f := 0) (fun x hx => by cases hx; exact hw') (rx_S hX (fun q hq => by rw [setA_ne1 (by omega), setI_ne1 (by omega)]) (fun q hq => by rw [setA_ne1 (by omega), setI_s1]; simp [upd, hq]) (by rw [setA_ne1 (by omega), setI_s1]; simp [upd]) rfl (xc_up hX.2.2.2.2.1 ho4 (fun q hq hne => ⟨by rw [setA_ne1 (by omega), setI_ne1 (by omega)], by rw [setA_ne1 (by omega), setI_ne1 (by omega)]⟩) ?_)) (rm_S hM (fun q h1 h2 => by rw [setI_ne1 (by omega), setA_ne1 (by omega), setA_ne1 (by omega)]) (fun q hq => by rw [setI_s1, setA_ne1 (by decide), setA_ne1 (by decide)]; simp [upd, hq]) (by rw [setI_s1]; simp [upd]) rfl (mc_up hM.2.2.2.2.1 (fun q hq hne s' hs' hx => shM_cong ?_ ?_ (fun z hz => ?_) hx hs') (fun q x hq hx => (hA.2.2.2.2.2 q x hq hx).2) ?_))⟩
                · rw [hcs_t hx.2.1 hw.2 b1, bi_some, if_neg (show ¬ (1 : Int32) = 0 by decide), hcs_t hx'.2.1 hw'.2 b2, bi_some, if_neg (show ¬ (1 : Int32) = 0 by decide)]
                  unfold cpA
                  rw [nI_clamp (by omega), nI_clamp (by omega), nI_clamp (by omega), if_neg (by
                    rintro (q | q | q | q | q)
                    · exact nI_pos (by omega) q
                    · exact nI_pos (by omega) q
                    · exact nI_pos (by omega) q
                    · omega
                    · omega), setI_ne1 (by omega), setI_ne1 (by omega)]
                · rw [bey_t hw.2 _ b1, bi_some, if_pos rfl, rd_in ho4 (by decide), hm'.1, bey_t hw'.2 _ b2, bi_some, if_pos rfl, show (0 : Int32) = nI 0 from rfl, cop_1 k i' o j' n' hk4 (by omega) n' 0 FU τ (by omega) (by show _ < 10000000; omega), show (0 : Int32) = nI 0 from rfl, cop_2 o j' n' ho4 (by omega) n' 0 FU _ (by omega) (by show _ < 10000000; omega), setA_s1, setA_ne1 (show 30 ≠ 31 by decide)]
                  rfl
                · obtain ⟨x1, x2, x3⟩ := hx'
                  refine ⟨?_, ?_, fun q hq => ?_⟩
                  · rw [setA_ne1 (by omega)]; exact x1
                  · rw [setA_ne1 (by omega)]; exact x2
                  · have hq : q < t.2.1 := hq
                    rw [show 11 + o = 7 + o + 4 by omega, setA_s1]
                    show _ = if j' ≤ q ∧ q < j' + n' then s.2.2 (i' + (q - j')) else t.2.2 q
                    by_cases g : j' ≤ q ∧ q < j' + n'
                    · rw [if_pos g, pk_cpy_in g.1 g.2]
                      have := hx.2.2 (i' + (q - j')) (by omega)
                      rw [setI_ne1 (by omega), show 11 + k = 7 + k + 4 by omega] at this
                      exact this
                    · rw [if_neg g, pk_cpy_out (by omega)]
                      have := x3 q hq
                      rw [setI_ne1 (by omega), show 11 + o = 7 + o + 4 by omega] at this
                      exact this
                · rw [setI_ne1 (by decide), setA_ne1 (by decide), setA_ne1 (by decide)]
                · rw [setI_ne1 (by decide), setA_ne1 (by decide), setA_ne1 (by decide)]
                · rw [setI_ne1 (by decide), setA_s1, if_neg (by omega)]
                · refine ⟨?_, ?_, fun q hq => ?_⟩
                  · rw [setI_ne1 (by decide), setA_ne1 (by decide), setA_ne1 (by decide)]; exact hm'.1
                  · rw [setI_ne1 (by decide), setA_ne1 (by decide), setA_ne1 (by decide)]; exact hm'.2.1
                  · have hq : q < t.2.1 := hq
                    rw [setI_ne1 (by decide), setA_s1]
                    show _ = if j' ≤ q ∧ q < j' + n' then s.2.2 (i' + (q - j')) else t.2.2 q
                    by_cases g : j' ≤ q ∧ q < j' + n'
                    · rw [if_pos g, if_pos (by omega), if_pos (by omega), show 60 * k + i' + (60 * o + q - (60 * o + j')) = 60 * k + (i' + (q - j')) by omega]
                      exact hm.2.2 _ (by omega)
                    · rw [if_neg g, if_neg (by omega)]
                      exact hm'.2.2 q hq
              · refine ⟨-13, setI σ 0 12 3, setI τ 0 0 3, ?_, ?_, hF 3⟩
                · rw [hcs_t hx.2.1 hw.2 b1, bi_some, if_neg (show ¬ (1 : Int32) = 0 by decide), hcs_f hx'.2.1 hw'.2 b2, bi_some, if_pos rfl, fy_eq, bi_some, set2]; rfl
                · rw [bey_t hw.2 _ b1, bi_some, if_pos rfl, rd_in ho4 (by decide), hm'.1, bey_f hw'.2 _ b2, bi_some, if_neg (show ¬ (1 : Int32) = 0 by decide), fd_eq, bi_some]; rfl
            · refine ⟨-13, setI σ 0 12 3, setI τ 0 0 3, ?_, ?_, hF 3⟩
              · rw [hcs_f hx.2.1 hw.2 b1, bi_some, if_pos rfl, fy_eq, bi_some, set2]; rfl
              · rw [bey_f hw.2 _ b1, bi_some, if_neg (show ¬ (1 : Int32) = 0 by decide), fd_eq, bi_some]; rfl
          · rw [if_neg e, if_neg e]
            exact ⟨_, _, _, rfl, rfl, hF 2⟩
    · refine ⟨-1, setI σ 0 12 0, setI τ 0 0 0, ?_, ?_, hRef⟩
      · unfold FX8_copy
        rw [nm_eq, sat_in _ hk4, bi_some, sh_some (by omega), sat_out _ ho, bi_some, sh_none]
      · unfold FX9_copy
        rw [nsh_eq, if_pos hk, bi_some, if_pos rfl, nsh_eq, if_neg ho, bi_some, if_neg (show ¬ (1 : Int32) = 0 by decide), rf_eq, bi_some]
  · refine ⟨-1, setI σ 0 12 0, setI τ 0 0 0, ?_, ?_, hRef⟩
    · unfold FX8_copy
      rw [nm_eq, sat_out _ hk, bi_some, sh_none]
      by_cases ho : 0 ≤ b.toInt ∧ b.toInt < 4
      · obtain ⟨o, ho4, rfl⟩ := blk (n := 4) ho
        rw [sat_in _ ho4, bi_some, sh_some (by omega)]
      · rw [sat_out _ ho, bi_some, sh_none]
    · unfold FX9_copy
      rw [nsh_eq, if_neg hk, bi_some, if_neg (show ¬ (1 : Int32) = 0 by decide), rf_eq, bi_some]

/-! ===== the class's push ===== -/
def EqD (Y : Yd) (D D' : Dy) : Prop := (∀ k, k < db Y → D.1 k = D'.1 k) ∧ ∀ c, c < dn Y → dg Y c = 3 → D.2 c = D'.2 c
theorem tb_inj {a b : Nat} (ha : a < 64) (hb : b < 64) (h : ∀ i, i < 6 → a.testBit i = b.testBit i) : a = b :=
  Nat.eq_of_testBit_eq fun i => by
    by_cases h6 : i < 6
    · exact h i h6
    · rw [tb64 ha (by omega), tb64 hb (by omega)]
theorem enc_inj {Y : Yd} (hY : WFY Y) {D D' : Dy} (hD : WFD Y D) (hD' : WFD Y D') {y : Int64} (h : EncX Y D y) (h' : EncX Y D' y) : EqD Y D D' := by
  constructor
  · intro k hk
    have a := wfd_lt hY hD hk
    have b := wfd_lt hY hD' hk
    exact tb_inj (by omega) (by omega) fun i hi => by rw [← h.1 k hk i hi, ← h'.1 k hk i hi]
  · intro c hc h3
    obtain ⟨j, hj, rfl⟩ := crs_of hc h3
    rw [← h.2.1 j hj, ← h'.2.1 j hj]
theorem enc_cong {Y : Yd} {D D' : Dy} (e : EqD Y D D') {y : Int64} (h : EncX Y D y) : EncX Y D' y := by
  refine ⟨fun k hk i hi => ?_, fun j hj => ?_, h.2.2⟩
  · rw [h.1 k hk i hi, e.1 k hk]
  · have := crs_at hj
    rw [h.2.1 j hj, e.2 _ this.1 this.2]
theorem enc_eq {Y : Yd} (hY : WFY Y) {D : Dy} {y z : Int64} (h : EncX Y D y) (h' : EncX Y D z) : y = z := by
  have h6 := hY.2.1
  refine w_ext fun i _ => ?_
  by_cases h1 : i < 6 * db Y
  · have e : i = 6 * (i / 6) + i % 6 := by omega
    rw [e, h.1 _ (by omega) _ (by omega), h'.1 _ (by omega) _ (by omega)]
  · by_cases h2 : i < 36
    · rw [h.2.2.1 i (by omega) h2, h'.2.2.1 i (by omega) h2]
    · by_cases h3 : i < 36 + (crs Y).length
      · have e : i = 36 + (i - 36) := by omega
        rw [e, h.2.1 _ (by omega), h'.2.1 _ (by omega)]
      · rw [h.2.2.2 i (by omega), h'.2.2.2 i (by omega)]
theorem wpl_bit (y : Int64) {s p : Nat} (hs : s + 6 ≤ 64) (hp : p < 64) {q : Nat} (hq : q < 64) : bit64 ((y &&& (((63 : Int64) <<< ((nI s).toInt64 &&& 63)) ^^^ (-1 : Int64))) ||| (((nI p).toInt64) <<< ((nI s).toInt64 &&& 63))) q = if s ≤ q ∧ q < s + 6 then p.testBit (q - s) else bit64 y q := by
  rw [w_or, w_and, w_xor, w_shl _ (by omega), w_shl _ (by omega), w_63, w_m1, nI_l (by omega), lN_bit, decide_eq_true hq]
  by_cases h1 : s ≤ q
  · rw [decide_eq_true h1, decide_eq_true (show q - s < 64 by omega)]
    by_cases h2 : q < s + 6
    · rw [decide_eq_true (show q - s < 6 by omega), if_pos ⟨h1, h2⟩]; simp
    · rw [decide_eq_false (show ¬ q - s < 6 by omega), if_neg (by omega), tb64 hp (by omega)]; simp
  · rw [decide_eq_false h1, if_neg (by omega)]; simp
theorem wpl_eq {Y : Yd} (hY : WFY Y) {D : Dy} {y : Int64} (h : EncX Y D y) {k p : Nat} (hk : k < db Y) (hp : p < 64) (σ : Mem) : ∃ y', FX8_withPlace σ y (nI k) (nI p) = some (y', σ) ∧ EncX Y (setPl D k p) y' := by
  have h6 := hY.2.1
  have h4 := hY.2.2.2.1
  refine ⟨_, by unfold FX8_withPlace; rw [nm_eq, n6'], fun j hj i hi => ?_, fun j hj => ?_, fun i h1 h2 => ?_, fun i h1 => ?_⟩
  · rw [wpl_bit y (by omega) hp (by omega)]
    show _ = (if j = k then p else D.1 j).testBit i
    by_cases e : j = k
    · subst e
      rw [if_pos (by omega), if_pos rfl, show 6 * j + i - 6 * j = i by omega]
    · rw [if_neg (by omega), if_neg e, h.1 j hj i hi]
  · rw [wpl_bit y (by omega) hp (by omega), if_neg (by omega)]
    exact h.2.1 j hj
  · rw [wpl_bit y (by omega) hp (by omega), if_neg (by omega)]
    exact h.2.2.1 i h1 h2
  · by_cases q : i < 64
    · rw [wpl_bit y (by omega) hp q, if_neg (by omega)]
      exact h.2.2.2 i h1
    · exact w_big (by omega)
theorem fil_loop {Y : Yd} (hY : WFY Y) {D : Dy} {σ : Mem} (hS : XS Y σ) {y : Int64} (h : EncX Y D y) {j0 : Nat} (hj0 : j0 < (crs Y).length) : ∀ (m i fuel : Nat), i + m = j0 → m < fuel → ∃ y', FX1_fillCrack_3 fuel σ y (nI ((crs Y).getD j0 0)) (nI i) = some (y', σ) ∧ EncX Y (filC D ((crs Y).getD j0 0)) y' := by
  have h36 := dn_le hY
  have h4 := hY.2.2.2.1
  intro m
  induction m with
  | zero =>
    intro i fuel hi hf
    obtain ⟨f, rfl⟩ : ∃ f, fuel = f + 1 := ⟨fuel - 1, by omega⟩
    have e : i = j0 := by omega
    subst e
    refine ⟨y ||| ((1 : Int64) <<< ((nI (36 + i)).toInt64 &&& 63)), ?_, fun k hk q hq => ?_, fun j hj => ?_, fun q h1 h2 => ?_, fun q h1 => ?_⟩
    · show BX1_fillCrack_3 (FX1_fillCrack_3 f) σ y _ (nI i) = _
      unfold BX1_fillCrack_3
      rw [hS.2.2.2.1, if_neg (nI_ge (by omega) (by omega)), if_neg (show ¬ (4 : Int32) ≤ nI i from nI_ge (b := 4) (by omega) (by omega)), rd_in (by omega) (by decide), hS.2.2.2.2.1 i hj0, if_pos rfl, show (36 : Int32) + nI i = nI (36 + i) from nI_add 36 i]
    · have h6 := hY.2.1
      rw [w_or, w_one (by omega), decide_eq_false (by omega), Bool.or_false]
      exact h.1 k hk q hq
    · rw [w_or, w_one (by omega), h.2.1 j hj]
      show (D.2 ((crs Y).getD j 0) || decide (36 + j = 36 + i)) = ((crs Y).getD j 0 == (crs Y).getD i 0 || D.2 ((crs Y).getD j 0))
      by_cases e : j = i
      · subst e; simp
      · rw [decide_eq_false (by omega), beq_false_of_ne (fun q => e (crs_inj hj hj0 q))]; simp
    · rw [w_or, w_one (by omega), decide_eq_false (by omega), Bool.or_false]
      exact h.2.2.1 q h1 h2
    · rw [w_or, w_one (by omega), decide_eq_false (by omega), Bool.or_false]
      exact h.2.2.2 q h1
  | succ m ih =>
    intro i fuel hi hf
    obtain ⟨f, rfl⟩ : ∃ f, fuel = f + 1 := ⟨fuel - 1, by omega⟩
    obtain ⟨y', e1, e2⟩ := ih (i + 1) f (by omega) (by omega)
    refine ⟨y', ?_, e2⟩
    show BX1_fillCrack_3 (FX1_fillCrack_3 f) σ y _ (nI i) = _
    have c1 := crs_at (Y := Y) (j := i) (by omega)
    have c2 := crs_at (Y := Y) (j := j0) (by omega)
    unfold BX1_fillCrack_3
    rw [hS.2.2.2.1, if_neg (nI_ge (by omega) (by omega)), if_neg (show ¬ (4 : Int32) ≤ nI i from nI_ge (b := 4) (by omega) (by omega)), rd_in (by omega) (by decide), hS.2.2.2.2.1 i (by omega), if_neg (fun q => by
      have := crs_inj (by omega) hj0 ((nI_eq (by omega) (by omega)).mp q)
      omega), nm_eq, nI_1]
    exact e1
theorem fil_eq {Y : Yd} (hY : WFY Y) {D : Dy} {σ : Mem} (hS : XS Y σ) {y : Int64} (h : EncX Y D y) {c : Nat} (hc : c < dn Y) (h3 : dg Y c = 3) : ∃ y', FX1_fillCrack σ y (nI c) = some (y', σ) ∧ EncX Y (filC D c) y' := by
  obtain ⟨j, hj, rfl⟩ := crs_of hc h3
  have h4 := hY.2.2.2.1
  exact fil_loop hY hS h hj j 0 FU (Nat.zero_add _) (by show _ < 10000000; omega)
theorem way_eq {Y : Yd} (hY : WFY Y) {σ : Mem} (hS : XS Y σ) {c d : Nat} (hc : c < dn Y) (hd : d < 4) : FX1_wayFrom σ (nI c) (nI d) = some (wayI (nxt Y c d), σ) := by
  have h36 := dn_le hY
  unfold FX1_wayFrom
  rw [nm_eq, show nI c * (4 : Int32) + nI d = nI (4 * c + d) by rw [show (4 : Int32) = nI 4 from rfl, pk_mul, nI_add, Nat.mul_comm], if_neg (nI_pos (by omega)), if_pos (show nI (4 * c + d) < (144 : Int32) from nI_lt (b := 144) (by omega) (by decide)), rd_in (by omega) (by decide), hS.2.2.2.2.2.2.2.2.2.2.2.2 c d hc hd]
def strI (o : Option Nat) : Int32 := match o with
  | none => -1
  | some j => nI j
theorem xbi_loop {Y : Yd} (hY : WFY Y) {D : Dy} (hD : WFD Y D) {σ : Mem} (hb : σ.1 1 6 = nI (db Y)) (hl : ∀ k, k < db Y → σ.1 22 k = nI (D.1 k)) {c : Nat} (hc : c < 36) : ∀ (m i fuel : Nat), i + m = db Y → m < fuel → FX6_blockIn_2 fuel σ (nI c) (nI i) = some (strI (blkN D c i m), σ) := by
  have h6 := hY.2.1
  intro m
  induction m with
  | zero =>
    intro i fuel hi hf
    obtain ⟨f, rfl⟩ : ∃ f, fuel = f + 1 := ⟨fuel - 1, by omega⟩
    show BX6_blockIn_2 (FX6_blockIn_2 f) σ (nI c) (nI i) = _
    unfold BX6_blockIn_2
    rw [hb, if_pos (nI_le (by omega) (by omega))]
    rfl
  | succ m ih =>
    intro i fuel hi hf
    obtain ⟨f, rfl⟩ : ∃ f, fuel = f + 1 := ⟨fuel - 1, by omega⟩
    show BX6_blockIn_2 (FX6_blockIn_2 f) σ (nI c) (nI i) = _
    unfold BX6_blockIn_2 blkN
    have hlt := wfd_lt hY hD (show i < db Y by omega)
    rw [hb, if_neg (nI_ge (by omega) (by omega)), if_neg (show ¬ (6 : Int32) ≤ nI i from nI_ge (b := 6) (by omega) (by omega)), rd_in (by omega) (by decide), hl i (by omega)]
    by_cases e : D.1 i = c
    · rw [if_pos (by rw [e]), if_pos e]; rfl
    · rw [if_neg (fun q => e ((nI_eq (by omega) (by omega)).mp q)), if_neg e, nm_eq, nI_1, ih (i + 1) f (by omega) (by omega)]
theorem xbi_eq {Y : Yd} (hY : WFY Y) {D : Dy} (hD : WFD Y D) {σ : Mem} (hb : σ.1 1 6 = nI (db Y)) (hl : ∀ k, k < db Y → σ.1 22 k = nI (D.1 k)) {c : Nat} (hc : c < 36) : FX6_blockIn σ (nI c) = some (strI (blkD Y D c), σ) := by
  have h6 := hY.2.1
  exact xbi_loop hY hD hb hl hc (db Y) 0 FU (Nat.zero_add _) (by show _ < 10000000; omega)
theorem occ_iff {Y : Yd} {D : Dy} {c : Nat} (hc : c < dn Y) : occD Y D c = true ↔ ∃ j, blkD Y D c = some j := by
  unfold occD
  rw [decide_eq_true hc, Bool.true_and]
  simp only [List.any_eq_true, List.mem_range, beq_iff_eq]
  constructor
  · rintro ⟨k, hk, e⟩
    cases hb : blkD Y D c with
    | none => exact absurd e (blkD_none hb hk)
    | some j => exact ⟨j, rfl⟩
  · rintro ⟨j, hb⟩
    exact ⟨j, blkD_lt hb⟩
theorem occ_f {Y : Yd} {D : Dy} {c : Nat} (hc : c < dn Y) (hb : blkD Y D c = none) : occD Y D c = false := by
  cases h : occD Y D c
  · rfl
  · obtain ⟨j, hj⟩ := (occ_iff hc).mp h
    rw [hb] at hj; cases hj
/-- what the slider's sets say of the yard that is loaded -/
def LdX (Y : Yd) (T : Nat → Bool) (D0 : Dy) (σ : Mem) : Prop := XS Y σ ∧ (∀ k, k < db Y → σ.1 22 k = nI (D0.1 k)) ∧ (∀ i, bit64 (σ.2 2 3) i = occD Y D0 i) ∧ (∀ i, bit64 (σ.2 2 4) i = opnD Y D0 i) ∧ ∀ i, bit64 (σ.2 2 5) i = T i
def hbI (h : Option (Nat × Nat)) : Int32 := match h with
  | none => -1
  | some g => nI g.1
def hgI (h : Option (Nat × Nat)) : Int32 := match h with
  | none => -1
  | some g => nI g.2
/-- the slider has gone on from σ0 -/
def SlX (Y : Yd) (r : PR) (σ0 σ : Mem) : Prop := (∀ o, o ≠ 2 → σ.1 o = σ0.1 o) ∧ (∀ o, o ≠ 2 → σ.2 o = σ0.2 o) ∧ σ.2 2 2 = σ0.2 2 2 ∧ σ.2 2 3 = σ0.2 2 3 ∧ σ.2 2 4 = σ0.2 2 4 ∧ σ.2 2 5 = σ0.2 2 5 ∧ EncX Y r.1 (σ.2 2 6) ∧ (∀ i, bit64 (σ.2 2 7) i = r.2.1 i) ∧ σ.1 2 8 = hbI r.2.2 ∧ σ.1 2 9 = hgI r.2.2
theorem xs_cong {Y : Yd} {σ σ' : Mem} (h1 : σ'.1 1 = σ.1 1) (h18 : σ'.1 18 = σ.1 18) (h19 : σ'.1 19 = σ.1 19) (h20 : σ'.1 20 = σ.1 20) (h21 : σ'.1 21 = σ.1 21) (h2 : σ'.2 1 = σ.2 1) (h : XS Y σ) : XS Y σ' := by
  unfold XS
  rw [h1, h18, h19, h20, h21, h2]
  exact h
theorem sl_ld {Y : Yd} {T : Nat → Bool} {D0 : Dy} {r : PR} {σ0 σ : Mem} (h : SlX Y r σ0 σ) (hL : LdX Y T D0 σ0) : LdX Y T D0 σ := by
  obtain ⟨h1, h2, _, h3, h4, h5, _⟩ := h
  refine ⟨xs_cong (h1 1 (by decide)) (h1 18 (by decide)) (h1 19 (by decide)) (h1 20 (by decide)) (h1 21 (by decide)) (h2 1 (by decide)) hL.1, ?_, ?_, ?_, ?_⟩
  · rw [h1 22 (by decide)]; exact hL.2.1
  · rw [h3]; exact hL.2.2.1
  · rw [h4]; exact hL.2.2.2.1
  · rw [h5]; exact hL.2.2.2.2
/-- sand on trial lies on ice alone -/
def TOk (Y : Yd) (T : Nat → Bool) : Prop := ∀ i, T i = true → i < dn Y ∧ dg Y i = 0
theorem opn_3 {Y : Yd} {T : Nat → Bool} (hT : TOk Y T) {D : Dy} {e : Nat} (he : e < dn Y) : opnD Y D e = true ↔ whatD Y T D e = 3 := by
  unfold opnD whatD
  rw [decide_eq_true he, Bool.true_and, Bool.and_eq_true, beq_iff_eq]
  by_cases ht : T e = true
  · have := hT e ht
    rw [if_pos ht]
    constructor
    · intro q; omega
    · intro q; cases q
  · rw [if_neg ht]
    cases hf : D.2 e
    · simp
    · by_cases h3 : dg Y e = 3
      · rw [if_pos ⟨h3, rfl⟩]; simp
      · rw [if_neg (fun q => h3 q.1)]; simp [h3]
theorem what_4 {Y : Yd} {T : Nat → Bool} (hT : TOk Y T) {D : Dy} {e : Nat} (v : Nat) (hv : 4 ≤ v) : whatD Y T D e = v ↔ dg Y e = v := by
  unfold whatD
  by_cases ht : T e = true
  · have := hT e ht
    rw [if_pos ht]
    omega
  · rw [if_neg ht]
    by_cases h3 : dg Y e = 3 ∧ D.2 e = true
    · rw [if_pos h3]; omega
    · rw [if_neg h3]
theorem what_2 {Y : Yd} {T : Nat → Bool} {D : Dy} {e : Nat} : whatD Y T D e = 2 ↔ (dg Y e = 2 ∨ T e = true) := by
  unfold whatD
  by_cases ht : T e = true
  · rw [if_pos ht]; simp [ht]
  · rw [if_neg ht]
    by_cases h3 : dg Y e = 3 ∧ D.2 e = true
    · rw [if_pos h3]
      constructor
      · intro q; omega
      · intro q; rcases q with q | q
        · omega
        · exact absurd q ht
    · rw [if_neg h3]
      constructor
      · intro q; exact .inl q
      · intro q; rcases q with q | q
        · exact q
        · exact absurd q ht

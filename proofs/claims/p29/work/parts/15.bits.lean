/-! ===== longs by their bits ===== -/
theorem w_ext {a b : Int64} (h : ∀ i, i < 64 → bit64 a i = bit64 b i) : a = b := Int64.toBitVec_inj.mp (BitVec.eq_of_getLsbD_eq (fun i hi => h i hi))
theorem w_big {a : Int64} {i : Nat} (h : 64 ≤ i) : bit64 a i = false := BitVec.getLsbD_of_ge _ _ h
theorem w_and (a b : Int64) (i : Nat) : bit64 (a &&& b) i = (bit64 a i && bit64 b i) := by unfold bit64; rw [Int64.toBitVec_and, BitVec.getLsbD_and]
theorem w_or (a b : Int64) (i : Nat) : bit64 (a ||| b) i = (bit64 a i || bit64 b i) := by unfold bit64; rw [Int64.toBitVec_or, BitVec.getLsbD_or]
theorem w_xor (a b : Int64) (i : Nat) : bit64 (a ^^^ b) i = (bit64 a i ^^ bit64 b i) := by unfold bit64; rw [Int64.toBitVec_xor, BitVec.getLsbD_xor]
theorem w_0 (i : Nat) : bit64 0 i = false := BitVec.getLsbD_zero
theorem w_1 (i : Nat) : bit64 1 i = decide (i = 0) := by
  rcases Nat.lt_or_ge i 64 with h | h
  · exact (by decide +kernel : ∀ i, i < 64 → bit64 1 i = decide (i = 0)) i h
  · rw [w_big h, decide_eq_false (by omega)]
theorem w_63 (i : Nat) : bit64 63 i = decide (i < 6) := by
  rcases Nat.lt_or_ge i 64 with h | h
  · exact (by decide +kernel : ∀ i, i < 64 → bit64 63 i = decide (i < 6)) i h
  · rw [w_big h, decide_eq_false (by omega)]
theorem w_m1 (i : Nat) : bit64 (-1) i = decide (i < 64) := by
  rcases Nat.lt_or_ge i 64 with h | h
  · exact (by decide +kernel : ∀ i, i < 64 → bit64 (-1) i = decide (i < 64)) i h
  · rw [w_big h, decide_eq_false (by omega)]
theorem w_sl : ∀ n, n < 64 → (((nI n).toInt64 &&& 63).toBitVec.smod 64).toNat = n := by decide +kernel
theorem w_su : ∀ n, n < 64 → (((nI n).toInt64.toUInt64 &&& Int64.toUInt64 63).toBitVec % 64).toNat = n := by decide +kernel
theorem w_shl (x : Int64) {n : Nat} (hn : n < 64) (i : Nat) : bit64 (x <<< ((nI n).toInt64 &&& 63)) i = (decide (i < 64) && decide (n ≤ i) && bit64 x (i - n)) := by
  unfold bit64
  rw [Int64.toBitVec_shiftLeft]
  show (x.toBitVec <<< (((nI n).toInt64 &&& 63).toBitVec.smod 64).toNat).getLsbD i = _
  rw [w_sl n hn, BitVec.getLsbD_shiftLeft]
  rcases Nat.lt_or_ge i n with h | h
  · simp [h, Nat.not_le.mpr h]
  · simp [h, Nat.not_lt.mpr h]
theorem w_ushr (x : Int64) {n : Nat} (hn : n < 64) (i : Nat) : bit64 ((x.toUInt64 >>> ((nI n).toInt64.toUInt64 &&& Int64.toUInt64 63)).toInt64) i = bit64 x (n + i) := by
  show (x.toUInt64 >>> ((nI n).toInt64.toUInt64 &&& Int64.toUInt64 63)).toBitVec.getLsbD i = x.toUInt64.toBitVec.getLsbD (n + i)
  rw [UInt64.toBitVec_shiftRight]
  show (x.toUInt64.toBitVec >>> (((nI n).toInt64.toUInt64 &&& Int64.toUInt64 63).toBitVec % 64).toNat).getLsbD i = _
  rw [w_su n hn, BitVec.getLsbD_ushiftRight]
theorem w_sshr (x : Int64) {n : Nat} (hn : n < 64) {i : Nat} (hi : i < 64) : bit64 (x >>> ((nI n).toInt64 &&& 63)) i = if n + i < 64 then bit64 x (n + i) else bit64 x 63 := by
  unfold bit64
  rw [Int64.toBitVec_shiftRight]
  show (x.toBitVec.sshiftRight (((nI n).toInt64 &&& 63).toBitVec.smod 64).toNat).getLsbD i = _
  rw [w_sl n hn, BitVec.getLsbD_sshiftRight, BitVec.msb_eq_getLsbD_last]
  simp [hi]
/-- a bit set -/
theorem w_one {n : Nat} (hn : n < 64) (i : Nat) : bit64 ((1 : Int64) <<< ((nI n).toInt64 &&& 63)) i = decide (i = n) := by
  rw [w_shl _ hn, w_1]
  by_cases h : i = n
  · subst h; simp [hn]
  · rw [decide_eq_false h]
    by_cases h2 : n ≤ i
    · simp [show ¬ i - n = 0 by omega]
    · simp [h2]
theorem w_eq0 {a : Int64} : a = 0 ↔ ∀ i, i < 64 → bit64 a i = false := ⟨fun h i _ => by rw [h, w_0], fun h => w_ext fun i hi => by rw [h i hi, w_0]⟩
/-- a's bit n, alone -/
theorem w_b1 {a : Int64} (b : Bool) (h : bit64 a 0 = b) : a &&& 1 = if b then 1 else 0 := by
  refine w_ext fun i hi => ?_
  rw [w_and, w_1]
  by_cases h0 : i = 0
  · subst h0; rw [h]; cases b <;> decide
  · rw [decide_eq_false h0, Bool.and_false]
    cases b
    · show false = bit64 0 i; rw [w_0]
    · show false = bit64 1 i; rw [w_1, decide_eq_false h0]
theorem has_eq (σ : Mem) (y : Int64) {n : Nat} (hn : n < 64) : FX8_has σ y (nI n) = some (if bit64 y n then 1 else 0, σ) := by
  unfold FX8_has
  rw [w_b1 (bit64 y n) (w_ushr y hn 0)]
  cases bit64 y n
  · rfl
  · rfl
theorem hs1_eq (y : Int64) {n : Nat} (hn : n < 64) : (y >>> ((nI n).toInt64 &&& 63)) &&& 1 = if bit64 y n then 1 else 0 :=
  w_b1 (bit64 y n) (by rw [w_sshr y hn (by decide), if_pos (by omega)]; rfl)
theorem hs1_1 (y : Int64) {n : Nat} (hn : n < 64) : lg_cmp ((y >>> ((nI n).toInt64 &&& 63)) &&& 1) 1 = 0 ↔ bit64 y n = true := by
  rw [hs1_eq y hn]
  cases bit64 y n <;> decide
theorem hs1_0 (y : Int64) {n : Nat} (hn : n < 64) : lg_cmp ((y >>> ((nI n).toInt64 &&& 63)) &&& 1) 0 = 0 ↔ bit64 y n = false := by
  rw [hs1_eq y hn]
  cases bit64 y n <;> decide
theorem n6' (k : Nat) : (6 : Int32) * nI k = nI (6 * k) := by rw [show (6 : Int32) = nI 6 from rfl, pk_mul]
theorem lN_bit (p i : Nat) : bit64 (lN p) i = (decide (i < 64) && p.testBit i) := BitVec.getLsbD_ofNat 64 p i
theorem tb64 {p : Nat} (h : p < 64) {i : Nat} (hi : 6 ≤ i) : p.testBit i = false := Nat.testBit_lt_two_pow (Nat.lt_of_lt_of_le h (Nat.pow_le_pow_right (n := 2) (by decide) hi))
theorem pof_val {y : Int64} {k p : Nat} (hk : k < 6) (hp : p < 64) (h : ∀ i, i < 6 → bit64 y (6 * k + i) = p.testBit i) (σ : Mem) : FX8_placeOf σ y (nI k) = some (nI p, σ) := by
  unfold FX8_placeOf
  rw [n6', show ((y.toUInt64 >>> ((nI (6 * k)).toInt64.toUInt64 &&& Int64.toUInt64 63)).toInt64 &&& (63 : Int64)) = lN p from w_ext fun i hi => by
    rw [w_and, w_ushr y (by omega), w_63, lN_bit, decide_eq_true hi, Bool.true_and]
    by_cases h6 : i < 6
    · rw [decide_eq_true h6, Bool.and_true, h i h6]
    · rw [decide_eq_false h6, Bool.and_false, tb64 hp (by omega)], lN_i]
theorem wfd_lt {Y : Yd} (hY : WFY Y) {D : Dy} (h : WFD Y D) {k : Nat} (hk : k < db Y) : D.1 k < 39 := by
  have h36 := dn_le hY
  rcases h k hk with e | e | e | e <;> omega
theorem pof_eq {Y : Yd} (hY : WFY Y) {D : Dy} (hD : WFD Y D) {y : Int64} (h : EncX Y D y) {k : Nat} (hk : k < db Y) (σ : Mem) : FX8_placeOf σ y (nI k) = some (nI (D.1 k), σ) := by
  have h6 := hY.2.1
  have := wfd_lt hY hD hk
  exact pof_val (by omega) (by omega) (h.1 k hk) σ
theorem wip_val {p : Nat} (hp : p < 39) : (if (36 : Int32) ≤ nI p then (if nI p = (36 : Int32) then (-6 : Int32) else (-20 : Int32) - (nI p - (37 : Int32))) else nI p) = lieI p := by
  exact (by decide +kernel : ∀ p, p < 39 → (if (36 : Int32) ≤ nI p then (if nI p = (36 : Int32) then (-6 : Int32) else (-20 : Int32) - (nI p - (37 : Int32))) else nI p) = lieI p) p hp
theorem whi_eq {Y : Yd} (hY : WFY Y) {D : Dy} (hD : WFD Y D) {y : Int64} (h : EncX Y D y) {k : Nat} (hk : k < db Y) (σ : Mem) : FX8_whereIs σ y (nI k) = some (lieI (D.1 k), σ) := by
  unfold FX8_whereIs
  rw [pof_eq hY hD h hk, bi_some, ← wip_val (wfd_lt hY hD hk)]
  by_cases h1 : (36 : Int32) ≤ nI (D.1 k)
  · rw [if_pos h1, if_pos h1]
    by_cases h2 : nI (D.1 k) = (36 : Int32)
    · rw [if_pos h2, if_pos h2]
    · rw [if_neg h2, if_neg h2]
  · rw [if_neg h1, if_neg h1]
/-! ===== the cracks, in their order ===== -/
theorem getD_at {l : List Nat} {j : Nat} (h : j < l.length) : l.getD j 0 = l[j] := by simp [List.getD, h]
theorem crs_nd (Y : Yd) : (crs Y).Nodup := List.Pairwise.filter _ List.nodup_range
theorem crs_mem {Y : Yd} {c : Nat} : c ∈ crs Y ↔ c < dn Y ∧ dg Y c = 3 := by
  unfold crs
  rw [List.mem_filter, List.mem_range]
  simp
theorem crs_at {Y : Yd} {j : Nat} (h : j < (crs Y).length) : (crs Y).getD j 0 < dn Y ∧ dg Y ((crs Y).getD j 0) = 3 := by
  rw [← crs_mem, getD_at h]
  exact List.getElem_mem h
theorem crs_of {Y : Yd} {c : Nat} (h : c < dn Y) (h3 : dg Y c = 3) : ∃ j, j < (crs Y).length ∧ (crs Y).getD j 0 = c := by
  obtain ⟨j, hj, e⟩ := List.mem_iff_getElem.mp (crs_mem.mpr ⟨h, h3⟩)
  exact ⟨j, hj, by rw [getD_at hj, e]⟩
theorem crs_inj {Y : Yd} {i j : Nat} (hi : i < (crs Y).length) (hj : j < (crs Y).length) (h : (crs Y).getD i 0 = (crs Y).getD j 0) : i = j := by
  rw [getD_at hi, getD_at hj] at h
  have hp := List.pairwise_iff_getElem.mp (crs_nd Y)
  rcases Nat.lt_trichotomy i j with e | e | e
  · exact absurd h (hp i j hi hj e)
  · exact e
  · exact absurd h.symm (hp j i hj hi e)
/-- the open cracks of the first n, as a set -/
def opnN (Y : Yd) (D : Dy) (n i : Nat) : Bool := (List.range n).any (fun j => (crs Y).getD j 0 == i && !D.2 i)
theorem opnN_all (Y : Yd) (D : Dy) (i : Nat) : opnN Y D (crs Y).length i = opnD Y D i := by
  unfold opnD
  apply Bool.eq_iff_iff.mpr
  unfold opnN
  simp only [List.any_eq_true, List.mem_range, Bool.and_eq_true, beq_iff_eq, decide_eq_true_eq]
  constructor
  · rintro ⟨j, hj, e, h⟩
    have := crs_at hj
    rw [e] at this
    exact ⟨this, h⟩
  · rintro ⟨⟨h1, h2⟩, h⟩
    obtain ⟨j, hj, e⟩ := crs_of h1 h2
    exact ⟨j, hj, e, h⟩
theorem opn_loop {Y : Yd} (hY : WFY Y) {D : Dy} {σ : Mem} (hS : XS Y σ) {y : Int64} (h : EncX Y D y) : ∀ (m i fuel : Nat) (s : Int64), i + m = (crs Y).length → m < fuel → (∀ q, bit64 s q = opnN Y D i q) → ∃ o, FX1_openCracks_5 fuel σ y s (nI i) = some (o, σ) ∧ ∀ q, bit64 o q = opnD Y D q := by
  have h36 := dn_le hY
  have h4 := hY.2.2.2.1
  intro m
  induction m with
  | zero =>
    intro i fuel s hi hf hs
    obtain ⟨f, rfl⟩ : ∃ f, fuel = f + 1 := ⟨fuel - 1, by omega⟩
    refine ⟨s, ?_, fun q => ?_⟩
    · show BX1_openCracks_5 (FX1_openCracks_5 f) σ y s (nI i) = _
      unfold BX1_openCracks_5
      rw [hS.2.2.2.1, if_pos (nI_le (by omega) (by omega))]
    · rw [hs, show i = (crs Y).length by omega, opnN_all]
  | succ m ih =>
    intro i fuel s hi hf hs
    obtain ⟨f, rfl⟩ : ∃ f, fuel = f + 1 := ⟨fuel - 1, by omega⟩
    have hc := crs_at (Y := Y) (j := i) (by omega)
    have hst : ∀ q, opnN Y D (i + 1) q = (opnN Y D i q || ((crs Y).getD i 0 == q && !D.2 q)) := fun q => by
      unfold opnN
      rw [List.range_succ, List.any_append]
      simp
    have hun : BX1_openCracks_5 (FX1_openCracks_5 f) σ y s (nI i) = if bit64 y (36 + i) then FX1_openCracks_5 f σ y s (nI (i + 1)) else FX1_openCracks_5 f σ y (s ||| ((1 : Int64) <<< ((nI ((crs Y).getD i 0)).toInt64 &&& 63))) (nI (i + 1)) := by
      unfold BX1_openCracks_5
      rw [hS.2.2.2.1, if_neg (nI_ge (by omega) (by omega)), if_neg (show ¬ (4 : Int32) ≤ nI i from nI_ge (b := 4) (by omega) (by omega)), show (36 : Int32) + nI i = nI (36 + i) from nI_add 36 i, has_eq _ _ (by omega), bi_some]
      cases bit64 y (36 + i)
      · rw [if_pos (show (if false = true then (1 : Int32) else 0) = 0 by decide), rd_in (by omega) (by decide), nm_eq, nm_eq, nI_1, hS.2.2.2.2.1 i (by omega)]; rfl
      · rw [if_neg (show ¬ (if true = true then (1 : Int32) else 0) = 0 by decide), nm_eq, nI_1]; rfl
    show ∃ o, BX1_openCracks_5 (FX1_openCracks_5 f) σ y s (nI i) = some (o, σ) ∧ _
    rw [hun, h.2.1 i (by omega)]
    cases hf2 : D.2 ((crs Y).getD i 0)
    · refine ih (i + 1) f _ (by omega) (by omega) fun q => ?_
      rw [w_or, hs, w_one (by omega), hst]
      congr 1
      by_cases e : q = (crs Y).getD i 0
      · subst e; rw [hf2]; simp
      · rw [decide_eq_false e, beq_false_of_ne (fun h => e h.symm)]; rfl
    · refine ih (i + 1) f s (by omega) (by omega) fun q => ?_
      rw [hs, hst]
      by_cases e : q = (crs Y).getD i 0
      · subst e; rw [hf2]; simp
      · rw [beq_false_of_ne (fun h => e h.symm)]; simp
theorem opn_eq {Y : Yd} (hY : WFY Y) {D : Dy} {σ : Mem} (hS : XS Y σ) {y : Int64} (h : EncX Y D y) : ∃ o, FX1_openCracks σ y = some (o, σ) ∧ ∀ q, bit64 o q = opnD Y D q := by
  have h4 := hY.2.2.2.1
  unfold FX1_openCracks
  exact opn_loop hY hS h _ 0 FU 0 (Nat.zero_add _) (by show _ < 10000000; omega) (fun q => by rw [w_0]; rfl)

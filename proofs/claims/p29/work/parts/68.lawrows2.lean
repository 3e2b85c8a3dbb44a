/-! ===== the law's rows: what the class says of them; the tracks ===== -/
section LR2
variable {L : Nat} {xs0 : Nat → Int32} {A : As} {y g l : Nat → Int32} {s3 : Nat → Int64}
theorem num_I {p : Nat} (hp : p < 1000) : (10 : Int32) * (nI p / (4 : Int32)) + (nI p - nI p / (4 : Int32) * (4 : Int32)) = nI (num p) := by
  rw [m4 (by omega), d4 (by omega), show (10 : Int32) = nI 10 from rfl, pk_mul, nI_add]
  rfl
theorem row_lists {tr : Int64} (nn : Nat) : rowL A (bit64 tr) nn = flt (vr (aY A) (bit64 tr) nn (aD A) F0') 0 ((4 * db (aY A)) ^ nn) := by
  unfold rowL
  rw [wkc_flt, Nat.zero_mul]
  rfl
theorem one_shl {n : Nat} (hn : n ≤ 36) : ¬ lg_cmp ((1 : Int64) <<< ((nI n).toInt64 &&& 63)) 0 < 0 ∧ ¬ lg_cmp (((1 : Int64) <<< ((nI n).toInt64 &&& 63)) >>> ((nI n).toInt64 &&& 63)) 0 = 0 :=
  (by decide +kernel : ∀ n, n < 37 → ¬ lg_cmp ((1 : Int64) <<< ((nI n).toInt64 &&& 63)) 0 < 0 ∧ ¬ lg_cmp (((1 : Int64) <<< ((nI n).toInt64 &&& 63)) >>> ((nI n).toInt64 &&& 63)) 0 = 0) n (by omega)
/-- bits within the yard -/
theorem tr_in {tr : Int64} {n : Nat} (hn : n ≤ 36) (h : ∀ i, bit64 tr i = true → i < n) : ¬ lg_cmp tr 0 < 0 ∧ lg_cmp (tr >>> ((nI n).toInt64 &&& 63)) 0 = 0 := by
  have h63 : bit64 tr 63 = false := by
    cases hb : bit64 tr 63
    · rfl
    · have := h 63 hb; omega
  constructor
  · rw [lg_lt]
    show ¬ tr.toInt < 0
    intro hneg
    have hm : tr.toBitVec.msb = true := by
      rw [BitVec.msb_eq_toInt]
      exact decide_eq_true hneg
    rw [BitVec.msb_eq_getLsbD_last] at hm
    change bit64 tr 63 = true at hm
    rw [h63] at hm
    cases hm
  · rw [lg_eq, w_eq0]
    intro i hi
    rw [w_sshr tr (by omega) hi]
    by_cases q : n + i < 64
    · rw [if_pos q]
      cases hb : bit64 tr (n + i)
      · rfl
      · have := h (n + i) hb; omega
    · rw [if_neg q, h63]
theorem t_1414 (hw : Lw A y g l (s3 0)) {tr : Int64} (ht : ∀ i, bit64 tr i = true → i < dn (aY A)) {nn : Nat} (hnn : nn = 1 ∨ nn = 2) (rl1 : RL1) (n : Nat) {σ : Mem} (hX : RX A σ) : FL_law_1414 L xs0 rl1 σ n y g l s3 (nI (4 * db (aY A))) tr (nI nn) = rl1 σ n y g l s3 (nI (4 * db (aY A))) tr (nI (nn + 1)) := by
  obtain ⟨hA, hY, hE, h3, hd, hdis⟩ := hw
  have h36 := dn_le hA.1
  obtain ⟨a1, a2⟩ := tr_in h36 ht
  obtain ⟨b1, b2⟩ := one_shl h36
  unfold FL_law_1414
  rw [rows_q hA hX hnn a1 a2, bi_some, if_pos rfl, rows_m hnn, bi_some, if_pos rfl, rd0 (by decide) (by decide), rd1 (by decide) (by decide), hY.1, hY.2.1, pk_mul, show dh (aY A) * dw (aY A) = dn (aY A) from rfl, rows_o hA hX hnn b1 b2, bi_some, if_pos rfl, rows_4, bi_some, if_pos rfl, nm_eq, nI_1]
theorem t_end (hw : Lw A y g l (s3 0)) {tr : Int64} (ht : ∀ i, bit64 tr i = true → i < dn (aY A)) {nn : Nat} (hnn : nn = 1 ∨ nn = 2) (rl1 : RL1) (rl2 : RL2) (n : Nat) {σ : Mem} (hX : RX A σ) : ∃ σ', RX A σ' ∧ FL_law_1134 L xs0 rl1 rl2 σ n y g l s3 (nI (4 * db (aY A))) tr (nI nn) (nI (flt (vr (aY A) (bit64 tr) nn (aD A) F0') 0 ((4 * db (aY A)) ^ nn)).length) (hdI (flt (vr (aY A) (bit64 tr) nn (aD A) F0') 0 ((4 * db (aY A)) ^ nn))) (nI ((4 * db (aY A)) ^ nn)) (nI ((4 * db (aY A)) ^ nn)) (nI ((4 * db (aY A)) ^ nn)) = rl1 σ' n y g l s3 (nI (4 * db (aY A))) tr (nI (nn + 1)) := by
  have hw' := hw
  obtain ⟨hA, hY, hE, h3, hd, hdis⟩ := hw
  have h36 := dn_le hA.1
  obtain ⟨a1, a2⟩ := tr_in h36 ht
  have hB : (4 * db (aY A)) ^ nn ≤ 144 := by
    have h12 : 4 * db (aY A) ≤ 12 := by omega
    rcases hnn with rfl | rfl
    · rw [Nat.pow_one]; omega
    · exact Nat.le_trans (Nat.pow_le_pow_left h12 2) (by decide)
  have hlen := flt_len (vr (aY A) (bit64 tr) nn (aD A) F0') 0 ((4 * db (aY A)) ^ nn)
  obtain ⟨σ1, x1, x2⟩ := rows_x hA hX hnn a1 a2 (q := -1) (by rcases hnn with rfl | rfl <;> decide)
  obtain ⟨σ2, w1, w2⟩ := rows_x hA x2 hnn a1 a2 (q := 0) (by rcases hnn with rfl | rfl <;> decide)
  rw [row_lists] at x1 w1
  have hmem : ∀ z, (flt (vr (aY A) (bit64 tr) nn (aD A) F0') 0 ((4 * db (aY A)) ^ nn)).head? = some z → z < (4 * db (aY A)) ^ nn := fun z hz => by
    have := flt_mem _ _ _ z (List.mem_of_mem_head? hz)
    omega
  generalize hLs : flt (vr (aY A) (bit64 tr) nn (aD A) F0') 0 ((4 * db (aY A)) ^ nn) = Ls at *
  have r1 : rowsA (4 * db (aY A)) nn Ls (-1) = nI Ls.length := if_pos rfl
  rw [r1] at x1
  have m21 : ∀ s0 : Int32, (∀ z, Ls.head? = some z → s0 = nI (dgt (4 * db (aY A)) nn z 0) ∧ z < (4 * db (aY A)) ^ nn) → ∃ σ', RX A σ' ∧ FL_law_1321 L xs0 rl1 σ n y g l s3 (nI (4 * db (aY A))) tr (nI nn) (nI Ls.length) (hdI Ls) s0 = rl1 σ' n y g l s3 (nI (4 * db (aY A))) tr (nI (nn + 1)) := by
    intro s0 hs0
    unfold FL_law_1321
    rw [x1, bi_some, if_pos rfl, w1, bi_some]
    -- the first push, the second
    have m68 : ∀ v : Int32, v = rowsA (4 * db (aY A)) nn Ls 0 → ∃ σ', RX A σ' ∧ FL_law_1368 L xs0 rl1 σ2 n y g l s3 (nI (4 * db (aY A))) tr (nI nn) (nI Ls.length) (hdI Ls) v (rowsA (4 * db (aY A)) nn Ls 0) = rl1 σ' n y g l s3 (nI (4 * db (aY A))) tr (nI (nn + 1)) := by
      intro v hv
      unfold FL_law_1368
      rw [if_pos hv.symm]
      rcases hnn with rfl | rfl
      · rw [if_neg (show ¬ nI 1 = (2 : Int32) by decide)]
        exact ⟨σ2, w2, t_1414 hw' ht (.inl rfl) rl1 n w2⟩
      · obtain ⟨σ3, v1, v2⟩ := rows_x hA w2 (n := 2) (.inr rfl) a1 a2 (q := 1) (by decide)
        rw [row_lists, hLs] at v1
        rw [if_pos (show nI 2 = (2 : Int32) from rfl), v1, bi_some]
        cases hL2 : Ls with
        | nil =>
          rw [if_pos (show nI ([] : List Nat).length = 0 from rfl), if_pos (show rowsA (4 * db (aY A)) 2 [] 1 = -9 from rfl)]
          exact ⟨σ3, v2, t_1414 hw' ht (.inr rfl) rl1 n v2⟩
        | cons z Lt =>
          have hz := (hs0 z (by rw [hL2]; rfl)).2
          have hB0 : 0 < 4 * db (aY A) := by
            rcases Nat.eq_zero_or_pos (4 * db (aY A)) with e | e
            · rw [e] at hz; exact absurd hz (Nat.not_lt_zero z)
            · exact e
          rw [hL2] at hlen
          have hm4 : z % (4 * db (aY A)) % 4 = z % 4 := Nat.mod_mod_of_dvd z (Nat.dvd_mul_right 4 _)
          have hmz : z % (4 * db (aY A)) < 4 * db (aY A) := Nat.mod_lt _ hB0
          have hval : rowsA (4 * db (aY A)) 2 (z :: Lt) 1 = (10 : Int32) * (nI (z % (4 * db (aY A))) / (4 : Int32)) + (nI z - nI z / (4 : Int32) * (4 : Int32)) := by
            rw [m4 (by omega), ← hm4, ← m4 (p := z % (4 * db (aY A))) (by omega), num_I (by omega)]
            unfold rowsA dgt
            rw [if_neg (show ¬ (1 : Int32) = -1 by decide)]
            show nI (num (z / (4 * db (aY A)) ^ (2 - 1 - 1) % (4 * db (aY A)))) = _
            rw [show 2 - 1 - 1 = 0 from rfl, Nat.pow_zero, Nat.div_one]
          rw [if_neg (show ¬ nI (z :: Lt).length = 0 from nI_ne0 (by simp) (by omega)), dzI_ok (nI_ne0 hB0 (by omega)), dzI_ok (by decide), dzI_ok (by decide), show hdI (z :: Lt) = nI z from rfl, pk_md (by omega) hB0 (by omega), if_pos hval]
          exact ⟨σ3, v2, t_1414 hw' ht (.inr rfl) rl1 n v2⟩
    cases hL2 : Ls with
    | nil =>
      rw [if_pos (show nI ([] : List Nat).length = 0 from rfl)]
      have := m68 (-9) (by rw [hL2]; rfl)
      rw [hL2] at this
      exact this
    | cons z Lt =>
      obtain ⟨e1, e2⟩ := hs0 z (by rw [hL2]; rfl)
      rw [hL2] at hlen
      have hdg : dgt (4 * db (aY A)) nn z 0 < 1000 := by
        unfold dgt
        exact Nat.lt_of_le_of_lt (Nat.mod_le _ _) (Nat.lt_of_le_of_lt (Nat.div_le_self _ _) (by omega))
      rw [if_neg (show ¬ nI (z :: Lt).length = 0 from nI_ne0 (by simp) (by omega)), dzI_ok (by decide), dzI_ok (by decide), e1, num_I hdg]
      have := m68 (nI (num (dgt (4 * db (aY A)) nn z 0))) (by rw [hL2]; rfl)
      rw [hL2] at this
      exact this
  unfold FL_law_1134
  rw [if_pos (nI_le (Nat.le_refl _) (by omega))]
  rcases hnn with rfl | rfl
  · rw [if_pos (show nI 1 = (1 : Int32) from rfl)]
    refine m21 (hdI Ls) (fun z hz => ⟨?_, hmem z hz⟩)
    have hzl := hmem z hz
    unfold hdI
    rw [hz]
    unfold dgt
    show nI z = nI (z / (4 * db (aY A)) ^ (1 - 1 - 0) % (4 * db (aY A)))
    rw [show 1 - 1 - 0 = 0 from rfl, Nat.pow_zero, Nat.div_one]
    rw [Nat.pow_one] at hzl
    rw [Nat.mod_eq_of_lt hzl]
  · rw [if_neg (show ¬ nI 2 = (1 : Int32) by decide)]
    by_cases hb : db (aY A) = 0
    · rw [if_pos (show nI (4 * db (aY A)) = 0 by rw [hb]; rfl)]
      refine m21 (hdI Ls) (fun z hz => ?_)
      have := hmem z hz
      rw [hb] at this
      exact absurd this (Nat.not_lt_zero z)
    · have hB0 : 0 < 4 * db (aY A) := by omega
      rw [if_neg (nI_ne0 hB0 (by omega)), dzI_ok (nI_ne0 hB0 (by omega))]
      refine m21 _ (fun z hz => ⟨?_, hmem z hz⟩)
      have hzl := hmem z hz
      unfold hdI
      rw [hz]
      unfold dgt
      show nI z / nI (4 * db (aY A)) = nI (z / (4 * db (aY A)) ^ (2 - 1 - 0) % (4 * db (aY A)))
      rw [show 2 - 1 - 0 = 1 from rfl, Nat.pow_one, pk_div (by omega) hB0 (by omega)]
      rw [Nat.pow_two] at hzl
      rw [Nat.mod_eq_of_lt (Nat.div_lt_of_lt_mul hzl)]
theorem t_1101 (hL : L ≤ 260) (hw : Lw A y g l (s3 0)) {tr : Int64} (ht : ∀ i, bit64 tr i = true → i < dn (aY A)) {n : Nat} (hn : n + 200000 ≤ 600000) {σ : Mem} (hX : RX A σ) : FL_law_1101 L xs0 FU σ n y g l s3 (nI (4 * db (aY A))) tr 1 = some 1 := by
  have h3 := hw.2.2.2.1
  have hp1 : (4 * db (aY A)) ^ 1 ≤ 144 := by rw [Nat.pow_one]; omega
  have hp2 : (4 * db (aY A)) ^ 2 ≤ 144 := Nat.le_trans (Nat.pow_le_pow_left (show 4 * db (aY A) ≤ 12 by omega) 2) (by decide)
  have go : ∀ (nn : Nat), nn = 1 ∨ nn = 2 → ∀ (f n : Nat) (σ : Mem), n + 1000 ≤ 600000 → RX A σ → ∃ (n' : Nat) (σ' : Mem), n' ≤ n + 1000 ∧ RX A σ' ∧ FL_law_1101 L xs0 (f + 1) σ n y g l s3 (nI (4 * db (aY A))) tr (nI nn) = FL_law_1101 L xs0 f σ' n' y g l s3 (nI (4 * db (aY A))) tr (nI (nn + 1)) := by
    intro nn hnn f n σ hn hX
    have hB : (4 * db (aY A)) ^ nn ≤ 144 := by rcases hnn with rfl | rfl <;> assumption
    obtain ⟨n', q1, q2⟩ := t_1116 (L := L) (xs0 := xs0) hw (tr := tr) (t := bit64 tr) (fun i => rfl) (FL_law_1101 L xs0 f) hnn ((4 * db (aY A)) ^ nn) 0 FU n σ (Nat.zero_add _) (by show _ < 10000000; omega) (by omega)
    obtain ⟨σ', r1, r2⟩ := t_end (L := L) (xs0 := xs0) hw ht hnn (FL_law_1101 L xs0 f) (FL_law_1116 L xs0 (FL_law_1101 L xs0 f) 0) n' hX
    refine ⟨n', σ', by omega, r1, ?_⟩
    show BL_law_1101 L xs0 (FL_law_1101 L xs0 f) σ n y g l s3 (nI (4 * db (aY A))) tr (nI nn) = _
    unfold BL_law_1101
    rw [if_neg (show ¬ (3 : Int32) ≤ nI nn from nI_ge (b := 3) (by omega) (by decide)), ← r2, ← q2]
    rfl
  obtain ⟨n1, σ1, a1, a2, a3⟩ := go 1 (.inl rfl) 9999999 n σ (by omega) hX
  obtain ⟨n2, σ2, b1, b2, b3⟩ := go 2 (.inr rfl) 9999998 n1 σ1 (by omega) a2
  have e1 : FL_law_1101 L xs0 FU σ n y g l s3 (nI (4 * db (aY A))) tr 1 = _ := a3
  have e2 : FL_law_1101 L xs0 9999999 σ1 n1 y g l s3 (nI (4 * db (aY A))) tr (nI (1 + 1)) = _ := b3
  rw [e1, e2]
  show BL_law_1101 L xs0 (FL_law_1101 L xs0 9999997) σ2 n2 y g l s3 (nI (4 * db (aY A))) tr (nI 3) = _
  unfold BL_law_1101
  rw [if_pos (show (3 : Int32) ≤ nI 3 by decide)]
  exact t_1488 hL hw (db (aY A)) 0 FU n2 σ2 (Nat.zero_add _) (by show _ < 10000000; omega) (by omega) b2
/-- the remainder of a number, made not below 0 -/
theorem low_q (v : Int32) {B : Nat} (h0 : 0 < B) (hB : B < 2 ^ 31) : ∃ r, r < B ∧ FL_low v (nI B) = some (nI r) := by
  have hnn : ¬ (v &&& (2147483647 : Int32)) < 0 := by
    rw [toInt_lt]
    show ¬ (v &&& (2147483647 : Int32)).toInt < 0
    intro hneg
    have hm : (v &&& (2147483647 : Int32)).toBitVec.msb = true := by
      rw [BitVec.msb_eq_toInt]
      exact decide_eq_true hneg
    rw [Int32.toBitVec_and, BitVec.msb_and] at hm
    rw [Bool.and_eq_true] at hm
    exact absurd hm.2 (by decide)
  obtain ⟨j, hj, hv⟩ := nI_of hnn
  refine ⟨j % B, Nat.mod_lt _ h0, ?_⟩
  unfold FL_low
  rw [dzI_ok (nI_ne0 h0 hB), hv, pk_md hj h0 hB]
theorem t_1006 (hL : L ≤ 260) (hw : Lw A y g l (s3 0)) {a b : Nat} (ha : 0 < db (aY A) → a < 4 * db (aY A)) (hb : 0 < db (aY A) → b < 4 * db (aY A)) {n : Nat} (hn : n + 300000 ≤ 600000) {σ : Mem} (hX : RX A σ) : FL_law_1006 L xs0 σ n y g l s3 (nI (4 * db (aY A))) (nI a) (nI b) = some 1 := by
  have hw' := hw
  obtain ⟨hA, hY, hE, h3, hd, hdis⟩ := hw
  obtain ⟨o, c1, c2⟩ := copied_q l
  have e0 : ∀ i, bit64 (0 : Int64) i = true → i < dn (aY A) := fun i h => by rw [w_0] at h; cases h
  unfold FL_law_1006
  rw [c1, bn_some, al_in (by omega), al_in (by omega), rd0 (by decide) (by decide), stB0 (by decide) (by decide)]
  by_cases h0 : db (aY A) = 0
  · rw [if_pos (show nI (4 * db (aY A)) ≤ 0 by rw [h0]; decide)]
    exact t_1101 hL hw' e0 (by omega) hX
  · have ha' := ha (by omega)
    have hb' := hb (by omega)
    rw [if_neg (nI_nle (show 0 < 4 * db (aY A) by omega) (by omega)), dzI_ok (by decide), dzI_ok (by decide), m4 (by omega), d4 (by omega)]
    obtain ⟨l', s', e1, e2⟩ := push_q hA.1 (t0_ok (aY A)) hY hA.2.1 (l := o) (s := vp_updL zL 0 (s3 0)) (by rw [z0]; exact encM_l hE c2) (z2 _) (k := a / 4) (d := a % 4) (by omega) (by omega)
    have hP := pu_ok hA.1 (T := T0) hA.2.1 (k := a / 4) (d := a % 4) (by omega)
    have hho := (ho_bits (h := (pushD (aY A) T0 (aD A) (a / 4) (a % 4)).2.2) (fun q hq => (hP.2.2 q hq).2) (boy := 0) (by decide)).1
    rw [e1, bn_some]
    cases hg1 : anyT (aY A) (pushD (aY A) T0 (aD A) (a / 4) (a % 4)).2.1
    · rw [if_neg (show ¬ false = true by decide), if_pos (show (-1 : Int32) < 0 by decide)]
      exact t_1101 hL hw' e0 (by omega) hX
    · rw [if_pos rfl, if_neg (show ¬ hoI (pushD (aY A) T0 (aD A) (a / 4) (a % 4)).2.2 < 0 by rw [toInt_lt]; rw [toInt_le] at hho; omega), rd1 (by decide) (by decide), nm_eq, dzI_ok (by decide), dzI_ok (by decide), m4 (by omega), d4 (by omega)]
      obtain ⟨l2, s2, r1, r2⟩ := push_q hA.1 (t0_ok (aY A)) hY hP.1 (l := l') (s := s') e2.1 e2.2.2 (k := b / 4) (d := b % 4) (by omega) (by omega)
      have hP2 := pu_ok hA.1 (T := T0) hP.1 (k := b / 4) (d := b % 4) (by omega)
      have hho2 := (ho_bits (h := (pushD (aY A) T0 (pushD (aY A) T0 (aD A) (a / 4) (a % 4)).1 (b / 4) (b % 4)).2.2) (fun q hq => (hP2.2.2 q hq).2) (boy := 0) (by decide)).1
      have t1 : ∀ i, bit64 ((0 : Int64) ||| s' 1) i = true → i < dn (aY A) := fun i h => by
        rw [or0, e2.2.1] at h
        exact hP.2.1 i h
      have q1 : FL_push y g l' s' (nI (b / 4)) (nI (b % 4)) = _ := r1
      show (bn (FL_push y g l' s' (nI (b / 4)) (nI (b % 4))) _) = _
      rw [q1, bn_some]
      cases hg2 : anyT (aY A) (pushD (aY A) T0 (pushD (aY A) T0 (aD A) (a / 4) (a % 4)).1 (b / 4) (b % 4)).2.1
      · rw [if_neg (show ¬ false = true by decide), if_pos (show (-1 : Int32) < 0 by decide), nm_eq]
        exact t_1101 hL hw' (fun i h => by
          rw [w_or, w_0, Bool.or_false] at h
          exact t1 i h) (by omega) hX
      · rw [if_pos rfl, if_neg (show ¬ hoI (pushD (aY A) T0 (pushD (aY A) T0 (aD A) (a / 4) (a % 4)).1 (b / 4) (b % 4)).2.2 < 0 by rw [toInt_lt]; rw [toInt_le] at hho2; omega), rd1 (by decide) (by decide), nm_eq]
        exact t_1101 hL hw' (fun i h => by
          rw [w_or, Bool.or_eq_true] at h
          rcases h with h | h
          · exact t1 i h
          · change bit64 (s2 1) i = true at h
            rw [r2.2.1] at h
            exact hP2.2.1 i h) (by omega) hX
theorem t_982 (hL : L ≤ 260) (hw : Lw A y g l (s3 0)) {a : Nat} (ha : 0 < db (aY A) → a < 4 * db (aY A)) {n : Nat} (hn : n + 300000 ≤ 600000) {σ : Mem} (hX : RX A σ) : FL_law_982 L xs0 σ n y g l s3 (nI (4 * db (aY A))) (nI a) = some 1 := by
  have h3 := hw.2.2.2.1
  unfold FL_law_982
  by_cases h0 : db (aY A) = 0
  · rw [if_pos (show nI (4 * db (aY A)) ≤ 0 by rw [h0]; decide)]
    exact t_1006 hL hw ha (b := 0) (fun h => by omega) hn hX
  · rw [if_neg (nI_nle (show 0 < 4 * db (aY A) by omega) (by omega))]
    obtain ⟨v, hv⟩ := cell_tot L hL xs0 8 (by decide)
    obtain ⟨r, hr, hq⟩ := low_q (v >>> ((5 : Int32) &&& 31)) (B := 4 * db (aY A)) (by omega) (by omega)
    rw [show FL_cell L xs0 (8 : Int32) = some v from hv, bn_some, hq, bn_some]
    exact t_1006 hL hw ha (fun _ => hr) hn hX
end LR2

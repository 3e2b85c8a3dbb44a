/-! ===== the law's rows ===== -/
theorem cmp_eqT {a b : Int64} {s t : Nat → Bool} (ha : ∀ i, bit64 a i = s i) (hb : ∀ i, bit64 b i = t i) : lg_cmp a b = 0 ↔ eqT s t = true := by
  rw [lg_eq, eqT_iff]
  constructor
  · intro h i _; rw [← ha, ← hb, h]
  · intro h; exact w_ext fun i hi => by rw [ha, hb, h i hi]
def F0' : Nat → Bool := fun _ => false
def hdI (L : List Nat) : Int32 := match L.head? with
  | none => -1
  | some z => nI z
theorem flt_s (g : Nat → Bool) (i : Nat) : flt g 0 (i + 1) = flt g 0 i ++ (if g i then [i] else []) := by
  rw [flt_add g i 0 1, Nat.zero_add]
  show _ ++ ((if g i then [i] else []) ++ []) = _
  rw [List.append_nil]
theorem flt_len (g : Nat → Bool) (x : Nat) : ∀ m, (flt g x m).length ≤ m := by
  intro m
  induction m generalizing x with
  | zero => exact Nat.le_refl _
  | succ m ih =>
    show ((if g x then [x] else []) ++ flt g (x + 1) m).length ≤ m + 1
    have := ih (x + 1)
    by_cases h : g x
    · rw [if_pos h, List.length_append, List.length_singleton]; omega
    · rw [if_neg h, List.length_append, List.length_nil]; omega
theorem flt_mem (g : Nat → Bool) (x : Nat) : ∀ m z, z ∈ flt g x m → x ≤ z ∧ z < x + m := by
  intro m
  induction m generalizing x with
  | zero => intro z h; cases h
  | succ m ih =>
    intro z h
    rcases List.mem_append.mp (show z ∈ (if g x then [x] else []) ++ flt g (x + 1) m from h) with h | h
    · by_cases q : g x
      · rw [if_pos q] at h
        have := List.mem_singleton.mp h
        omega
      · rw [if_neg q] at h; cases h
    · have := ih (x + 1) z h
      omega
section LR
variable {L : Nat} {xs0 : Nat → Int32} {A : As} {y g l : Nat → Int32} {s3 : Nat → Int64}
abbrev RL1 : Type := Mem → Nat → (Nat → Int32) → (Nat → Int32) → (Nat → Int32) → (Nat → Int64) → Int32 → Int64 → Int32 → Option (Int32)
abbrev RL2 : Type := Mem → Nat → (Nat → Int32) → (Nat → Int32) → (Nat → Int32) → (Nat → Int64) → Int32 → Int64 → Int32 → Int32 → Int32 → Int32 → Option (Int32)
/-- a row is held against the tracks -/
theorem t_1264 (rl1 : RL1) (rl2 : RL2) (σ : Mem) (n : Nat) {tr x19 : Int64} {v : Bool} (x13 : Int32) {Ls : List Nat} {z : Nat} (hz : z < 1000) (hl : Ls.length ≤ z) {x22 : Int32} (hv : ¬ (x22 = 0) ∧ lg_cmp x19 tr = 0 ↔ v = true) : FL_law_1264 L xs0 rl1 rl2 σ n y g l s3 (nI (4 * db (aY A))) tr x13 (nI Ls.length) (hdI Ls) (nI z) x19 x22 = rl2 σ n y g l s3 (nI (4 * db (aY A))) tr x13 (nI (Ls ++ if v then [z] else []).length) (hdI (Ls ++ if v then [z] else [])) (nI (z + 1)) := by
  unfold FL_law_1264
  by_cases h1 : x22 = 0
  · have hvf : v = false := by cases hq : v; rfl; exact absurd h1 (hv.mpr hq).1
    rw [if_pos h1, nm_eq, nI_1, hvf, if_neg (by decide), List.append_nil]
  · rw [if_neg h1]
    by_cases h2 : lg_cmp x19 tr = 0
    · have hvt : v = true := hv.mp ⟨h1, h2⟩
      rw [if_pos h2, hvt, if_pos rfl]
      cases Ls with
      | nil =>
        rw [if_pos (show nI ([] : List Nat).length = 0 from rfl), nm_eq, nm_eq, nI_1, nI_1]
        rfl
      | cons a Ls =>
        rw [if_neg (show ¬ nI (a :: Ls).length = 0 from nI_ne0 (by simp) (by omega)), nm_eq, nm_eq, nI_1, nI_1]
        simp only [List.length_append, List.length_cons, List.length_nil]
        rfl
    · have hvf : v = false := by cases hq : v; rfl; exact absurd (hv.mpr hq).2 h2
      rw [if_neg h2, nm_eq, nI_1, hvf, if_neg (by decide), List.append_nil]
theorem or0 (a : Int64) (i : Nat) : bit64 (0 ||| a) i = bit64 a i := by rw [w_or, w_0, Bool.false_or]
/-- one push, and what is behind it -/
theorem t_1176 (hw : Lw A y g l (s3 0)) {o : Nat → Int32} (ho : ∀ k, k < 6 → o k = l k) (rl1 : RL1) (rl2 : RL2) (σ : Mem) (n : Nat) {tr : Int64} (x13 x14 x15 x16 : Int32) {p : Nat} (hp : p < 4 * db (aY A)) : ∃ (l' : Nat → Int32) (s' : Nat → Int64), LQ (aY A) T0 (pp (aY A) T0 (aD A) p).1 (pp (aY A) T0 (aD A) p).2.1 l' s' ∧ FL_law_1176 L xs0 rl1 rl2 σ n y g l s3 o (vp_updL zL 0 (s3 0)) (nI (4 * db (aY A))) tr x13 x14 x15 x16 0 (nI p) = FL_law_1203 L xs0 rl1 rl2 σ n y g l s3 l' s' (nI (4 * db (aY A))) tr x13 x14 x15 x16 0 (bI (gsF (aY A) (aD A) p)) := by
  obtain ⟨hA, hY, hE, h3, hd, hdis⟩ := hw
  obtain ⟨l', s', e1, e2⟩ := push_q hA.1 (t0_ok (aY A)) hY hA.2.1 (l := o) (s := vp_updL zL 0 (s3 0)) (by rw [z0]; exact encM_l hE ho) (z2 _) (k := p / 4) (d := p % 4) (by omega) (by omega)
  have hP := pu_ok hA.1 (T := T0) hA.2.1 (k := p / 4) (d := p % 4) (by omega)
  refine ⟨l', s', e2, ?_⟩
  unfold FL_law_1176
  rw [dzI_ok (by decide), dzI_ok (by decide), m4 (by omega), d4 (by omega), e1, bn_some]
  unfold gsF
  have hho := (ho_bits (h := (pp (aY A) T0 (aD A) p).2.2) (fun q hq => (hP.2.2 q hq).2) (boy := 0) (by decide)).1
  cases ha : anyT (aY A) (pp (aY A) T0 (aD A) p).2.1
  · rw [if_neg (show ¬ false = true by decide), if_pos (show (-1 : Int32) < 0 by decide)]
    rfl
  · rw [if_pos rfl, if_neg (show ¬ hoI (pp (aY A) T0 (aD A) p).2.2 < 0 by rw [toInt_lt]; rw [toInt_le] at hho; omega)]
    rfl
/-- the loop over all rows of n pushes -/
theorem t_1116 (hw : Lw A y g l (s3 0)) {tr : Int64} {t : Nat → Bool} (ht : ∀ i, bit64 tr i = t i) (rl1 : RL1) {nn : Nat} (hnn : nn = 1 ∨ nn = 2) : ∀ (m z fuel n : Nat) (σ : Mem), z + m = (4 * db (aY A)) ^ nn → m < fuel → n + 2 * m ≤ 600000 → ∃ n', n' ≤ n + 2 * m ∧ FL_law_1116 L xs0 rl1 fuel σ n y g l s3 (nI (4 * db (aY A))) tr (nI nn) (nI (flt (vr (aY A) t nn (aD A) F0') 0 z).length) (hdI (flt (vr (aY A) t nn (aD A) F0') 0 z)) (nI z) = FL_law_1134 L xs0 rl1 (FL_law_1116 L xs0 rl1 0) σ n' y g l s3 (nI (4 * db (aY A))) tr (nI nn) (nI (flt (vr (aY A) t nn (aD A) F0') 0 ((4 * db (aY A)) ^ nn)).length) (hdI (flt (vr (aY A) t nn (aD A) F0') 0 ((4 * db (aY A)) ^ nn))) (nI ((4 * db (aY A)) ^ nn)) (nI ((4 * db (aY A)) ^ nn)) (nI ((4 * db (aY A)) ^ nn)) := by
  have hw' := hw
  obtain ⟨hA, hY, hE, h3, hd, hdis⟩ := hw
  have hB : (4 * db (aY A)) ^ nn ≤ 144 := by
    have h12 : 4 * db (aY A) ≤ 12 := by omega
    rcases hnn with rfl | rfl
    · rw [Nat.pow_one]; omega
    · exact Nat.le_trans (Nat.pow_le_pow_left h12 2) (by decide)
  have ent : ∀ (rl2 : RL2) (σ : Mem) (n : Nat) (x14 x15 : Int32) (z : Nat), BL_law_1116 L xs0 rl1 rl2 σ n y g l s3 (nI (4 * db (aY A))) tr (nI nn) x14 x15 (nI z) = FL_law_1134 L xs0 rl1 rl2 σ n y g l s3 (nI (4 * db (aY A))) tr (nI nn) x14 x15 (nI z) (nI ((4 * db (aY A)) ^ nn)) (nI z) := by
    intro rl2 σ n x14 x15 z
    unfold BL_law_1116
    rcases hnn with rfl | rfl
    · rw [if_pos (show nI 1 = (1 : Int32) from rfl), Nat.pow_one]
    · rw [if_neg (show ¬ nI 2 = (1 : Int32) by decide), pk_mul, Nat.pow_two]
  intro m
  induction m with
  | zero =>
    intro z fuel n σ hz hf hn
    obtain ⟨f, rfl⟩ : ∃ f, fuel = f + 1 := ⟨fuel - 1, by omega⟩
    refine ⟨n, by omega, ?_⟩
    rw [Nat.add_zero] at hz
    show BL_law_1116 L xs0 rl1 (FL_law_1116 L xs0 rl1 f) σ n y g l s3 (nI (4 * db (aY A))) tr (nI nn) _ _ (nI z) = _
    rw [ent, hz]
    unfold FL_law_1134
    rw [if_pos (nI_le (Nat.le_refl _) (by omega)), if_pos (nI_le (Nat.le_refl _) (by omega))]
  | succ m ih =>
    intro z fuel n σ hz hf hn
    obtain ⟨f, rfl⟩ : ∃ f, fuel = f + 1 := ⟨fuel - 1, by omega⟩
    have hzl : z < (4 * db (aY A)) ^ nn := by omega
    obtain ⟨n', q1, q2⟩ := ih (z + 1) f (n + 2) σ (by omega) (by omega) (by omega)
    refine ⟨n', by omega, ?_⟩
    rw [← q2]
    show BL_law_1116 L xs0 rl1 (FL_law_1116 L xs0 rl1 f) σ n y g l s3 (nI (4 * db (aY A))) tr (nI nn) _ _ (nI z) = _
    rw [ent]
    obtain ⟨o, c1, c2⟩ := copied_q l
    unfold FL_law_1134
    rw [if_neg (nI_ge hzl (by omega)), c1, bn_some, al_in (by omega), al_in (by omega), rd0 (by decide) (by decide), stB0 (by decide) (by decide)]
    have hlen := flt_len (vr (aY A) t nn (aD A) F0') 0 z
    have hfs := flt_s (vr (aY A) t nn (aD A) F0') z
    rcases hnn with rfl | rfl
    · rw [Nat.pow_one] at hzl
      obtain ⟨l', s', e1, e2⟩ := t_1176 (L := L) (xs0 := xs0) hw' c2 rl1 (FL_law_1116 L xs0 rl1 f) σ (n + 1 + 1) (tr := tr) (nI 1) (nI (flt (vr (aY A) t 1 (aD A) F0') 0 z).length) (hdI (flt (vr (aY A) t 1 (aD A) F0') 0 z)) (nI z) hzl
      rw [if_pos (show nI 1 = (1 : Int32) from rfl), e2]
      unfold FL_law_1203
      rw [rd1 (by decide) (by decide), nm_eq, if_neg (show ¬ nI 1 = (2 : Int32) by decide), t_1264 (v := vr (aY A) t 1 (aD A) F0' z) rl1 (FL_law_1116 L xs0 rl1 f) σ (n + 1 + 1) (nI 1) (by omega) hlen, ← hfs]
      have hvr : vr (aY A) t 1 (aD A) F0' z = (gsF (aY A) (aD A) z && eqT (orT F0' (pp (aY A) T0 (aD A) z).2.1) t) := by
        unfold vr gr gsF
        rw [Nat.pow_zero, Nat.div_one, Nat.mod_eq_of_lt hzl]
        cases anyT (aY A) (pp (aY A) T0 (aD A) z).2.1 <;> rfl
      rw [hvr, Bool.and_eq_true, ← cmp_eqT (a := 0 ||| s' 1) (b := tr) (fun i => by rw [or0, e1.2.1]; show _ = (false || _); rw [Bool.false_or]) ht]
      cases gsF (aY A) (aD A) z <;> simp [bI]
    · have hdz : z / (4 * db (aY A)) < 4 * db (aY A) := by
        rw [Nat.pow_two] at hzl
        exact Nat.div_lt_of_lt_mul hzl
      have hB0 : 0 < 4 * db (aY A) := Nat.lt_of_le_of_lt (Nat.zero_le _) hdz
      have hmz : z % (4 * db (aY A)) < 4 * db (aY A) := Nat.mod_lt _ hB0
      obtain ⟨l', s', e1, e2⟩ := t_1176 (L := L) (xs0 := xs0) hw' c2 rl1 (FL_law_1116 L xs0 rl1 f) σ (n + 1 + 1) (tr := tr) (nI 2) (nI (flt (vr (aY A) t 2 (aD A) F0') 0 z).length) (hdI (flt (vr (aY A) t 2 (aD A) F0') 0 z)) (nI z) hdz
      have hP := pu_ok hA.1 (T := T0) hA.2.1 (k := z / (4 * db (aY A)) / 4) (d := z / (4 * db (aY A)) % 4) (by omega)
      rw [if_neg (show ¬ nI 2 = (1 : Int32) by decide), dzI_ok (nI_ne0 hB0 (by omega)), pk_div (by omega) hB0 (by omega), e2]
      unfold FL_law_1203
      rw [rd1 (by decide) (by decide), nm_eq, if_pos (show nI 2 = (2 : Int32) from rfl)]
      have hvr : vr (aY A) t 2 (aD A) F0' z = (gsF (aY A) (aD A) (z / (4 * db (aY A))) && (gsF (aY A) (pp (aY A) T0 (aD A) (z / (4 * db (aY A)))).1 (z % (4 * db (aY A))) && eqT (orT (orT F0' (pp (aY A) T0 (aD A) (z / (4 * db (aY A)))).2.1) (pp (aY A) T0 (pp (aY A) T0 (aD A) (z / (4 * db (aY A)))).1 (z % (4 * db (aY A)))).2.1) t)) := by
        unfold vr
        show (match (if anyT (aY A) (pp (aY A) T0 (aD A) (z / (4 * db (aY A)) ^ 1 % (4 * db (aY A)))).2.1 then (if anyT (aY A) (pp (aY A) T0 (pp (aY A) T0 (aD A) (z / (4 * db (aY A)) ^ 1 % (4 * db (aY A)))).1 (z / (4 * db (aY A)) ^ 0 % (4 * db (aY A)))).2.1 then some (orT (orT F0' (pp (aY A) T0 (aD A) (z / (4 * db (aY A)) ^ 1 % (4 * db (aY A)))).2.1) (pp (aY A) T0 (pp (aY A) T0 (aD A) (z / (4 * db (aY A)) ^ 1 % (4 * db (aY A)))).1 (z / (4 * db (aY A)) ^ 0 % (4 * db (aY A)))).2.1) else none) else none) with
          | none => false
          | some s => eqT s t) = _
        rw [Nat.pow_one, Nat.pow_zero, Nat.div_one, Nat.mod_eq_of_lt hdz]
        unfold gsF
        cases anyT (aY A) (pp (aY A) T0 (aD A) (z / (4 * db (aY A)))).2.1
        · rfl
        · rw [if_pos rfl, Bool.true_and]
          cases anyT (aY A) (pp (aY A) T0 (pp (aY A) T0 (aD A) (z / (4 * db (aY A)))).1 (z % (4 * db (aY A)))).2.1
          · rfl
          · rfl
      cases hg1 : gsF (aY A) (aD A) (z / (4 * db (aY A)))
      · rw [if_pos (show bI false = 0 from rfl), t_1264 (v := vr (aY A) t 2 (aD A) F0' z) rl1 (FL_law_1116 L xs0 rl1 f) σ (n + 1 + 1) (nI 2) (by omega) hlen, ← hfs]
        rw [hvr, hg1, Bool.false_and]
        simp [bI]
      · obtain ⟨l2, s2, r1, r2⟩ := push_q hA.1 (t0_ok (aY A)) hY hP.1 (l := l') (s := s') e1.1 e1.2.2 (k := z % (4 * db (aY A)) / 4) (d := z % (4 * db (aY A)) % 4) (by omega) (by omega)
        have hP2 := pu_ok hA.1 (T := T0) hP.1 (k := z % (4 * db (aY A)) / 4) (d := z % (4 * db (aY A)) % 4) (by omega)
        have hho := (ho_bits (h := (pp (aY A) T0 (pp (aY A) T0 (aD A) (z / (4 * db (aY A)))).1 (z % (4 * db (aY A)))).2.2) (fun q hq => (hP2.2.2 q hq).2) (boy := 0) (by decide)).1
        have hm4 : z % (4 * db (aY A)) % 4 = z % 4 := Nat.mod_mod_of_dvd z (Nat.dvd_mul_right 4 _)
        rw [if_neg (show ¬ bI true = 0 by decide), dzI_ok (nI_ne0 hB0 (by omega)), dzI_ok (by decide), dzI_ok (by decide), pk_md (by omega) hB0 (by omega), m4 (by omega), d4 (by omega), ← hm4, r1, bn_some]
        have fin : ∀ may : Bool, may = gsF (aY A) (pp (aY A) T0 (aD A) (z / (4 * db (aY A)))).1 (z % (4 * db (aY A))) → FL_law_1253 L xs0 rl1 (FL_law_1116 L xs0 rl1 f) σ (n + 1 + 1) y g l s3 s2 (nI (4 * db (aY A))) tr (nI 2) (nI (flt (vr (aY A) t 2 (aD A) F0') 0 z).length) (hdI (flt (vr (aY A) t 2 (aD A) F0') 0 z)) (nI z) (0 ||| s' 1) (bI may) = FL_law_1116 L xs0 rl1 f σ (n + 2) y g l s3 (nI (4 * db (aY A))) tr (nI 2) (nI (flt (vr (aY A) t 2 (aD A) F0') 0 (z + 1)).length) (hdI (flt (vr (aY A) t 2 (aD A) F0') 0 (z + 1))) (nI (z + 1)) := by
          intro may hmay
          unfold FL_law_1253
          rw [rd1 (by decide) (by decide), nm_eq, t_1264 (v := vr (aY A) t 2 (aD A) F0' z) rl1 (FL_law_1116 L xs0 rl1 f) σ (n + 1 + 1) (nI 2) (by omega) hlen, ← hfs]
          rw [hvr, hg1, Bool.true_and, ← hmay, Bool.and_eq_true, ← cmp_eqT (a := (0 ||| s' 1) ||| s2 1) (b := tr) (fun i => by rw [w_or, or0, e1.2.1, r2.2.1]; show _ = ((false || _) || _); rw [Bool.false_or]) ht]
          cases may <;> simp [bI]
        cases ha : anyT (aY A) (pp (aY A) T0 (pp (aY A) T0 (aD A) (z / (4 * db (aY A)))).1 (z % (4 * db (aY A)))).2.1
        · rw [if_neg (show ¬ false = true by decide), if_pos (show (-1 : Int32) < 0 by decide)]
          exact fin false ha.symm
        · rw [if_pos rfl, if_neg (show ¬ hoI (pp (aY A) T0 (pp (aY A) T0 (aD A) (z / (4 * db (aY A)))).1 (z % (4 * db (aY A)))).2.2 < 0 by rw [toInt_lt]; rw [toInt_le] at hho; omega)]
          exact fin true ha.symm
end LR

/-! ===== the law's own search: what it finds ===== -/
section LG
variable {L : Nat} {xs0 : Nat → Int32} {A : As} {y g l : Nat → Int32} {s3 : Nat → Int64}
theorem t_231 (hw : Lw A y g l (s3 0)) {boy : Nat} (hb : boy < 2) (rl191 : RB) (rl210 : RN) (σ : Mem) {len : Nat} (hl1 : 1 ≤ len) (hlen : len ≤ 3) : ∀ (m z fuel n : Nat), z + m = (4 * db (aY A)) ^ len → m + 1 < fuel → n + 2 * m ≤ 600000 → (∃ n', n' ≤ n + 2 * m ∧ (∀ z', z ≤ z' → z' < (4 * db (aY A)) ^ len → ¬ acW (aY A) boy (aD A) (wdW (4 * db (aY A)) len z')) ∧ FL_law_231 L xs0 rl191 rl210 fuel σ n y g l s3 (nI (4 * db (aY A))) (nI boy) (-9) 0 (nI ((4 * db (aY A)) ^ len)) (nI len) (nI z) = rl210 σ n' y g l s3 (nI (4 * db (aY A))) (nI boy) (-9) 0 (nI ((4 * db (aY A)) ^ len)) (nI (len + 1))) ∨ ∃ n' z', n' ≤ n + 2 * m ∧ z ≤ z' ∧ z' < (4 * db (aY A)) ^ len ∧ acW (aY A) boy (aD A) (wdW (4 * db (aY A)) len z') ∧ (∀ z'', z ≤ z'' → z'' < z' → ¬ acW (aY A) boy (aD A) (wdW (4 * db (aY A)) len z'')) ∧ FL_law_231 L xs0 rl191 rl210 fuel σ n y g l s3 (nI (4 * db (aY A))) (nI boy) (-9) 0 (nI ((4 * db (aY A)) ^ len)) (nI len) (nI z) = rl210 σ n' y g l s3 (nI (4 * db (aY A))) (nI boy) (nI len) (nI z') (nI ((4 * db (aY A)) ^ len)) (nI (len + 1)) := by
  have hw' := hw
  obtain ⟨hA, hY, hE, h3, hd, hdis⟩ := hw
  have h12 : 4 * db (aY A) ≤ 12 := by omega
  have hpw := pw3 (B := 4 * db (aY A)) (n := len) h12 hlen
  intro m
  induction m with
  | zero =>
    intro z fuel n hz hf hn
    obtain ⟨f, rfl⟩ : ∃ f, fuel = f + 1 := ⟨fuel - 1, by omega⟩
    refine .inl ⟨n, by omega, fun z' h1 h2 => by omega, ?_⟩
    show BL_law_231 L xs0 rl191 rl210 (FL_law_231 L xs0 rl191 rl210 f) σ n y g l s3 (nI (4 * db (aY A))) (nI boy) (-9) 0 (nI ((4 * db (aY A)) ^ len)) (nI len) (nI z) = _
    unfold BL_law_231
    rw [if_pos (nI_le (by omega) (by omega)), nm_eq, nI_1]
  | succ m ih =>
    intro z fuel n hz hf hn
    obtain ⟨f, rfl⟩ : ∃ f, fuel = f + 1 := ⟨fuel - 1, by omega⟩
    have hB : 0 < 4 * db (aY A) := by
      rcases Nat.eq_zero_or_pos (4 * db (aY A)) with q | q
      · rw [q, Nat.zero_pow (by omega)] at hz; omega
      · exact q
    obtain ⟨o, c1, c2⟩ := copied_q l
    obtain ⟨k, rfl⟩ : ∃ k, len = k + 1 := ⟨len - 1, by omega⟩
    have e : (4 * db (aY A)) ^ (k + 1) / (4 * db (aY A)) = (4 * db (aY A)) ^ k := by rw [Nat.pow_succ, Nat.mul_div_cancel _ hB]
    have un : FL_law_231 L xs0 rl191 rl210 (f + 1) σ n y g l s3 (nI (4 * db (aY A))) (nI boy) (-9) 0 (nI ((4 * db (aY A)) ^ (k + 1))) (nI (k + 1)) (nI z) = FL_law_288 L xs0 rl191 rl210 (FL_law_231 L xs0 rl191 rl210 f) FU σ (n + 1 + 1) y g l s3 o (vp_updL zL 0 (s3 0)) (nI (4 * db (aY A))) (nI boy) (-9) 0 (nI ((4 * db (aY A)) ^ (k + 1))) (nI (k + 1)) (nI z) (nI ((4 * db (aY A)) ^ k)) 0 1 (nI 0) := by
      show BL_law_231 L xs0 rl191 rl210 (FL_law_231 L xs0 rl191 rl210 f) σ n y g l s3 (nI (4 * db (aY A))) (nI boy) (-9) 0 (nI ((4 * db (aY A)) ^ (k + 1))) (nI (k + 1)) (nI z) = _
      unfold BL_law_231
      rw [if_neg (nI_ge (by omega) (by omega)), if_neg (show ¬ 0 ≤ (-9 : Int32) by decide), c1, bn_some, al_in (by omega), al_in (by omega), rd0 (by decide) (by decide), stB0 (by decide) (by decide), if_neg (nI_nle hB (by omega))]
      unfold FL_law_276
      rw [dzI_ok (nI_ne0 (by omega) (by omega)), pk_div (by omega) (by omega) (by omega), nm_eq, e]
      rfl
    have r := t_288 (L := L) (xs0 := xs0) hw' hb rl191 rl210 (FL_law_231 L xs0 rl191 rl210 f) σ (n + 1 + 1) (-9) 0 (nI ((4 * db (aY A)) ^ (k + 1))) (len := k + 1) (z := z) hlen (by omega) hB (k + 1) 0 FU o (vp_updL zL 0 (s3 0)) (nI ((4 * db (aY A)) ^ k)) 0 (Nat.zero_add _) (by show _ < 10000000; omega) trivial (by rw [z0]; exact encM_l hE c2) (z2 _) (.inr (by rw [Nat.add_sub_cancel])) (.inl ⟨rfl, fun q => q⟩)
    rw [un]
    rcases r with ⟨r1, r2⟩ | ⟨r1, r2⟩
    · refine .inr ⟨n + 1 + 1, z, by omega, Nat.le_refl _, by omega, r1, fun z'' h1 h2 => by omega, ?_⟩
      rw [r2]
      obtain ⟨f', rfl⟩ : ∃ f', f = f' + 1 := ⟨f - 1, by omega⟩
      show BL_law_231 L xs0 rl191 rl210 (FL_law_231 L xs0 rl191 rl210 f') σ (n + 1 + 1) y g l s3 (nI (4 * db (aY A))) (nI boy) (nI (k + 1)) (nI z) (nI ((4 * db (aY A)) ^ (k + 1))) (nI (k + 1)) (nI (z + 1)) = _
      unfold BL_law_231
      by_cases q : nI ((4 * db (aY A)) ^ (k + 1)) ≤ nI (z + 1)
      · rw [if_pos q, nm_eq, nI_1]
      · rw [if_neg q, if_pos (show 0 ≤ nI (k + 1) from nI_pos' (by omega)), nm_eq, nI_1]
    · rw [r2]
      rcases ih (z + 1) f (n + 1 + 1) (by omega) (by omega) (by omega) with ⟨n', q1, q2, q3⟩ | ⟨n', z', q1, q2, q3, q4, q5, q6⟩
      · refine .inl ⟨n', by omega, fun z' h1 h2 => ?_, q3⟩
        by_cases e9 : z' = z
        · rw [e9]; exact r1
        · exact q2 z' (by omega) h2
      · refine .inr ⟨n', z', by omega, by omega, q3, q4, fun z'' h1 h2 => ?_, q6⟩
        by_cases e9 : z'' = z
        · rw [e9]; exact r1
        · exact q5 z'' (by omega) h2
/-- nothing found, or the first row -/
def FndW (Y : Yd) (boy : Nat) (D : Dy) (x8 x9 x10 : Int32) : Prop := (x8 = -9 ∧ ∀ v, v.length ≤ 3 → ¬ acW Y boy D v) ∨ ∃ len z, 1 ≤ len ∧ len ≤ 3 ∧ z < (4 * db Y) ^ len ∧ x8 = nI len ∧ x9 = nI z ∧ x10 = nI ((4 * db Y) ^ len) ∧ acW Y boy D (wdW (4 * db Y) len z) ∧ (∀ v, v.length < len → ¬ acW Y boy D v) ∧ ∀ z', z' < z → ¬ acW Y boy D (wdW (4 * db Y) len z')
theorem no_len {Y : Yd} {boy : Nat} {D : Dy} {len : Nat} (h : ∀ z', 0 ≤ z' → z' < (4 * db Y) ^ len → ¬ acW Y boy D (wdW (4 * db Y) len z')) : ∀ v, v.length = len → ¬ acW Y boy D v := by
  intro v hv hac
  obtain ⟨a, b⟩ := wd_val v (ok_lt v (ac_ok v hac))
  rw [hv] at a b
  exact h _ (Nat.zero_le _) b (by rw [a]; exact hac)
theorem t_210 (hw : Lw A y g l (s3 0)) {boy : Nat} (hb : boy < 2) (σ : Mem) (f n : Nat) (hn : n + 4000 ≤ 600000) : ∃ n' x8 x9 x10, n' ≤ n + 4000 ∧ FndW (aY A) boy (aD A) x8 x9 x10 ∧ FL_law_191 L xs0 (f + 1) σ n y g l s3 (nI (4 * db (aY A))) (nI boy) = FL_law_419 L xs0 (FL_law_191 L xs0 f) σ n' y g l s3 (nI (4 * db (aY A))) (nI boy) x8 x9 x10 := by
  have h3 := hw.2.2.2.1
  have h12 : 4 * db (aY A) ≤ 12 := by omega
  have st : ∀ (len f' n : Nat), 1 ≤ len → len ≤ 3 → 0 < f' → n + 3456 ≤ 600000 → (∀ v, v.length < len → ¬ acW (aY A) boy (aD A) v) → (∃ n', n' ≤ n + 2 * (4 * db (aY A)) ^ len ∧ (∀ v, v.length < len + 1 → ¬ acW (aY A) boy (aD A) v) ∧ FL_law_210 L xs0 (FL_law_191 L xs0 f) (f' + 1) σ n y g l s3 (nI (4 * db (aY A))) (nI boy) (-9) 0 (nI ((4 * db (aY A)) ^ (len - 1))) (nI len) = FL_law_210 L xs0 (FL_law_191 L xs0 f) f' σ n' y g l s3 (nI (4 * db (aY A))) (nI boy) (-9) 0 (nI ((4 * db (aY A)) ^ len)) (nI (len + 1))) ∨ ∃ n' x8 x9 x10, n' ≤ n + 2 * (4 * db (aY A)) ^ len ∧ FndW (aY A) boy (aD A) x8 x9 x10 ∧ FL_law_210 L xs0 (FL_law_191 L xs0 f) (f' + 1) σ n y g l s3 (nI (4 * db (aY A))) (nI boy) (-9) 0 (nI ((4 * db (aY A)) ^ (len - 1))) (nI len) = FL_law_419 L xs0 (FL_law_191 L xs0 f) σ n' y g l s3 (nI (4 * db (aY A))) (nI boy) x8 x9 x10 := by
    intro len f' n hl1 hl3 hf hn hno
    have hpw := pw3 (B := 4 * db (aY A)) (n := len) h12 hl3
    have un : FL_law_210 L xs0 (FL_law_191 L xs0 f) (f' + 1) σ n y g l s3 (nI (4 * db (aY A))) (nI boy) (-9) 0 (nI ((4 * db (aY A)) ^ (len - 1))) (nI len) = FL_law_231 L xs0 (FL_law_191 L xs0 f) (FL_law_210 L xs0 (FL_law_191 L xs0 f) f') FU σ n y g l s3 (nI (4 * db (aY A))) (nI boy) (-9) 0 (nI ((4 * db (aY A)) ^ len)) (nI len) (nI 0) := by
      show BL_law_210 L xs0 (FL_law_191 L xs0 f) (FL_law_210 L xs0 (FL_law_191 L xs0 f) f') σ n y g l s3 (nI (4 * db (aY A))) (nI boy) (-9) 0 (nI ((4 * db (aY A)) ^ (len - 1))) (nI len) = _
      unfold BL_law_210
      rw [if_neg (show ¬ (4 : Int32) ≤ nI len from nI_ge (b := 4) (by omega) (by decide)), if_neg (show ¬ 0 ≤ (-9 : Int32) by decide), nI_mul, nm_eq, ← Nat.pow_succ, show (len - 1).succ = len by omega]
      rfl
    rw [un]
    rcases t_231 (L := L) (xs0 := xs0) hw hb (FL_law_191 L xs0 f) (FL_law_210 L xs0 (FL_law_191 L xs0 f) f') σ hl1 hl3 ((4 * db (aY A)) ^ len) 0 FU n (Nat.zero_add _) (by show _ < 10000000; omega) (by omega) with ⟨n', q1, q2, q3⟩ | ⟨n', z', q1, q2, q3, q4, q5, q6⟩
    · refine .inl ⟨n', q1, fun v hv => ?_, q3⟩
      rcases Nat.lt_or_ge v.length len with q | q
      · exact hno v q
      · exact no_len q2 v (by omega)
    · refine .inr ⟨n', nI len, nI z', nI ((4 * db (aY A)) ^ len), q1, .inr ⟨len, z', hl1, hl3, q3, rfl, rfl, rfl, q4, hno, fun z'' h => q5 z'' (Nat.zero_le _) h⟩, ?_⟩
      rw [q6]
      obtain ⟨f2, rfl⟩ : ∃ f2, f' = f2 + 1 := ⟨f' - 1, by omega⟩
      show BL_law_210 L xs0 (FL_law_191 L xs0 f) (FL_law_210 L xs0 (FL_law_191 L xs0 f) f2) σ n' y g l s3 (nI (4 * db (aY A))) (nI boy) (nI len) (nI z') (nI ((4 * db (aY A)) ^ len)) (nI (len + 1)) = _
      unfold BL_law_210
      by_cases q : (4 : Int32) ≤ nI (len + 1)
      · rw [if_pos q]
      · rw [if_neg q, if_pos (show 0 ≤ nI len from nI_pos' (by omega))]
  have un : FL_law_191 L xs0 (f + 1) σ n y g l s3 (nI (4 * db (aY A))) (nI boy) = FL_law_210 L xs0 (FL_law_191 L xs0 f) FU σ n y g l s3 (nI (4 * db (aY A))) (nI boy) (-9) 0 (nI ((4 * db (aY A)) ^ (1 - 1))) (nI 1) := by
    show BL_law_191 L xs0 (FL_law_191 L xs0 f) σ n y g l s3 (nI (4 * db (aY A))) (nI boy) = _
    unfold BL_law_191
    rw [if_neg (show ¬ (2 : Int32) ≤ nI boy from nI_ge (b := 2) hb (by decide)), show 1 - 1 = 0 from rfl, Nat.pow_zero]
    rfl
  have p1 : (4 * db (aY A)) ^ 1 ≤ 12 := by rw [Nat.pow_one]; exact h12
  have p2 : (4 * db (aY A)) ^ 2 ≤ 144 := Nat.pow_le_pow_left h12 2
  have p3 := pw3 (B := 4 * db (aY A)) (n := 3) h12 (Nat.le_refl _)
  rw [un]
  rcases st 1 9999999 n (by decide) (by decide) (by decide) (by omega) (fun v hv hac => by
    cases v with
    | nil => exact hac
    | cons p v => simp at hv) with ⟨n1, a1, a2, a3⟩ | ⟨n1, x8, x9, x10, a1, a2, a3⟩
  · rw [show FU = 9999999 + 1 from rfl, a3]
    rcases st 2 9999998 n1 (by decide) (by decide) (by decide) (by omega) a2 with ⟨n2, b1, b2, b3⟩ | ⟨n2, x8, x9, x10, b1, b2, b3⟩
    · rw [show (9999999 : Nat) = 9999998 + 1 from rfl]
      rw [show (4 * db (aY A)) ^ 1 = (4 * db (aY A)) ^ (2 - 1) from rfl]
      rw [show 1 + 1 = 2 from rfl, b3]
      rcases st 3 9999997 n2 (by decide) (by decide) (by decide) (by omega) b2 with ⟨n3, c1, c2, c3⟩ | ⟨n3, x8, x9, x10, c1, c2, c3⟩
      · refine ⟨n3, -9, 0, nI ((4 * db (aY A)) ^ 3), by omega, .inl ⟨rfl, fun v hv => c2 v (by omega)⟩, ?_⟩
        rw [show (9999998 : Nat) = 9999997 + 1 from rfl]
        rw [show (4 * db (aY A)) ^ 2 = (4 * db (aY A)) ^ (3 - 1) from rfl]
        rw [show 2 + 1 = 3 from rfl, c3]
        show BL_law_210 L xs0 (FL_law_191 L xs0 f) (FL_law_210 L xs0 (FL_law_191 L xs0 f) 9999996) σ n3 y g l s3 (nI (4 * db (aY A))) (nI boy) (-9) 0 (nI ((4 * db (aY A)) ^ 3)) (nI 4) = _
        unfold BL_law_210
        rw [if_pos (show (4 : Int32) ≤ nI 4 by decide)]
      · refine ⟨n3, x8, x9, x10, by omega, c2, ?_⟩
        rw [show (9999998 : Nat) = 9999997 + 1 from rfl]
        rw [show (4 * db (aY A)) ^ 2 = (4 * db (aY A)) ^ (3 - 1) from rfl]
        rw [show 2 + 1 = 3 from rfl, c3]
    · refine ⟨n2, x8, x9, x10, by omega, b2, ?_⟩
      rw [show (9999999 : Nat) = 9999998 + 1 from rfl]
      rw [show (4 * db (aY A)) ^ 1 = (4 * db (aY A)) ^ (2 - 1) from rfl]
      rw [show 1 + 1 = 2 from rfl, b3]
  · exact ⟨n1, x8, x9, x10, by omega, a2, a3⟩
end LG

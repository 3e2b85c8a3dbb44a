/-! ===== fewest: both boys ===== -/
section LI
variable {L : Nat} {xs0 : Nat → Int32} {A : As} {y g l : Nat → Int32} {s3 : Nat → Int64}
theorem e461 (h3 : db (aY A) ≤ 3) (rl191 : RB) (σ : Mem) (n : Nat) (x7 x8 x9 x10 x11 : Int32) : ∃ x12, FL_law_461 L xs0 rl191 σ n y g l s3 (nI (4 * db (aY A))) x7 x8 x9 x10 x11 = FL_law_480 L xs0 rl191 FU σ n y g l s3 (nI (4 * db (aY A))) x7 x8 x9 x11 x12 0 := by
  unfold FL_law_461
  by_cases h : nI (4 * db (aY A)) ≤ 0
  · exact ⟨_, by rw [if_pos h, dzI_ok (by decide), nm_eq]⟩
  · have hne : ¬ nI (4 * db (aY A)) = 0 := fun z => h (by rw [z]; decide)
    exact ⟨_, by rw [if_neg h, dzI_ok hne, nm_eq]⟩
theorem t_419 (hw : Lw A y g l (s3 0)) {boy : Nat} (hb : boy < 2) (rl191 : RB) {σ : Mem} (hX : RX A σ) (n : Nat) (hn : n + 2 ≤ 600000) {x8 x9 x10 : Int32} (hF : FndW (aY A) boy (aD A) x8 x9 x10) : ∃ n' σ', n' ≤ n + 2 ∧ RX A σ' ∧ FL_law_419 L xs0 rl191 σ n y g l s3 (nI (4 * db (aY A))) (nI boy) x8 x9 x10 = rl191 σ' n' y g l s3 (nI (4 * db (aY A))) (nI (boy + 1)) := by
  have hw' := hw
  obtain ⟨hA, hY, hE, h3, hd, hdis⟩ := hw
  have h12 : 4 * db (aY A) ≤ 12 := by omega
  have hP := few_p hA h3 hdis hX hb
  obtain ⟨σ1, a1, a2, _, _⟩ := fpx_eq hA hX hb (q := -1) (by decide)
  unfold FL_law_419
  rw [a1, bi_some]
  rcases hF with ⟨rfl, hno⟩ | ⟨len, z, hl1, hl3, hz, rfl, rfl, rfl, hac, hsh, hle⟩
  · rw [if_pos (show (-9 : Int32) ≤ 0 by decide)]
    have short : ∀ x11 : Int32, x11 ≤ 3 → ((x11 = -9 ∧ fewA A boy 0 = -9) ∨ (x11 = -5 ∧ fewA A boy 0 = -5)) → ∃ n' σ', n' ≤ n + 2 ∧ RX A σ' ∧ FL_law_461 L xs0 rl191 σ1 n y g l s3 (nI (4 * db (aY A))) (nI boy) (-9) x9 x10 x11 = rl191 σ' n' y g l s3 (nI (4 * db (aY A))) (nI (boy + 1)) := by
      intro x11 h11 hf
      obtain ⟨x12, e⟩ := e461 (L := L) (xs0 := xs0) (y := y) (g := g) (l := l) (s3 := s3) h3 rl191 σ1 n (nI boy) (-9) x9 x10 x11
      obtain ⟨σ2, c1, c2⟩ := t_663 (L := L) (xs0 := xs0) (y := y) (g := g) (l := l) (s3 := s3) hA a2 hb rl191 n (x11 := x11) (by rcases hf with q | q; exact .inl q; exact .inr (.inl q))
      refine ⟨n, σ2, by omega, c1, ?_⟩
      rw [e]
      show BL_law_480 L xs0 rl191 (FL_law_480 L xs0 rl191 9999999) σ1 n y g l s3 (nI (4 * db (aY A))) (nI boy) (-9) x9 x11 x12 0 = _
      unfold BL_law_480
      rw [if_pos (show (-9 : Int32) ≤ 0 by decide), if_pos h11]
      exact c2
    rcases hP with ⟨p1, p2⟩ | ⟨u, u1, u2, u3, u4, u5, u6, u7⟩ | ⟨p1, p2⟩
    · rw [p1 (-1), if_pos (show (-9 : Int32) ≤ 0 by decide), if_neg (show ¬ (-9 : Int32) = 0 by decide)]
      exact short (-9) (by decide) (.inl ⟨rfl, p1 0⟩)
    · have hl4 : 4 ≤ u.length := by
        rcases Nat.lt_or_ge 3 u.length with q | q
        · exact q
        · exact absurd (hi_ac u u1) (hno u q)
      rw [u5, if_neg (nI_nle (by omega) (by omega)), if_neg (show ¬ nI u.length < (4 : Int32) from nI_nlt (b := 4) hl4 (by omega)), if_neg (nI_ne0 (by omega) (by omega))]
      obtain ⟨x12, e⟩ := e461 (L := L) (xs0 := xs0) (y := y) (g := g) (l := l) (s3 := s3) h3 rl191 σ1 n (nI boy) (-9) x9 x10 (nI u.length)
      obtain ⟨o, o1, o2⟩ := copied_q l
      obtain ⟨σ2, b1, b2⟩ := t_579 (L := L) (xs0 := xs0) hw' hb rl191 (n + 1 + 1) u1 u4 u6 u.reverse [] FU σ1 o (vp_updL zL 0 (s3 0)) (by rw [List.reverse_reverse, List.append_nil]) (by rw [List.length_reverse]; show _ < 10000000; omega) (by rw [z0]; exact encM_l hE o2) (z2 _) a2
      obtain ⟨σ3, c1, c2⟩ := t_663 (L := L) (xs0 := xs0) (y := y) (g := g) (l := l) (s3 := s3) hA b1 hb rl191 (n + 1 + 1) (x11 := nI u.length) (.inr (.inr ⟨u.length, u3, u4, rfl, u7⟩))
      refine ⟨n + 1 + 1, σ3, by omega, c1, ?_⟩
      rw [e]
      show BL_law_480 L xs0 rl191 (FL_law_480 L xs0 rl191 9999999) σ1 n y g l s3 (nI (4 * db (aY A))) (nI boy) (-9) x9 (nI u.length) x12 0 = _
      unfold BL_law_480
      rw [if_pos (show (-9 : Int32) ≤ 0 by decide), if_neg (show ¬ nI u.length ≤ (3 : Int32) from nI_ge (a := 3) (by omega) (by omega)), o1, bn_some, al_in (by omega), al_in (by omega), rd0 (by decide) (by decide), stB0 (by decide) (by decide)]
      rw [← c2, ← b2]
      rfl
    · rw [p1 (-1), if_pos (show (-5 : Int32) ≤ 0 by decide), if_neg (show ¬ (-5 : Int32) = 0 by decide)]
      exact short (-5) (by decide) (.inr ⟨rfl, p1 0⟩)
  · have hwl := wd_len (4 * db (aY A)) len z
    have hhi : hiW (aY A) boy (aD A) (wdW (4 * db (aY A)) len z) := ac_hi hac (by rw [hwl]; exact hsh)
    have hB : 0 < 4 * db (aY A) := by
      rcases Nat.eq_zero_or_pos (4 * db (aY A)) with q | q
      · rw [q, Nat.zero_pow (by omega)] at hz; omega
      · exact q
    rcases hP with ⟨p1, p2⟩ | ⟨u, u1, u2, u3, u4, u5, u6, u7⟩ | ⟨p1, p2⟩
    · exact absurd hhi (p2 _)
    · have hku := u2 _ hhi
      have hul := len_key (hi_lt u u1) (wd_lt hB len z) hku
      rw [hwl] at hul
      have hul2 : u.length = len := by
        rcases Nat.lt_or_ge u.length len with q | q
        · exact absurd (hi_ac u u1) (hsh u q)
        · omega
      obtain ⟨v1, v2⟩ := wd_val u (hi_lt u u1)
      rw [hul2] at v1 v2
      have k1 := key_wd len _ v2
      have k2 := key_wd len _ hz
      rw [v1] at k1
      have hzv : valW (4 * db (aY A)) u = z := by
        rcases Nat.lt_or_ge (valW (4 * db (aY A)) u) z with q | q
        · exact absurd (by rw [v1]; exact hi_ac u u1) (hle _ q)
        · omega
      rw [hzv] at v1
      rw [hul2] at u5 u6 u7
      have hpw := pw3 (B := 4 * db (aY A)) (n := len) h12 hl3
      obtain ⟨k, rfl⟩ : ∃ k, len = k + 1 := ⟨len - 1, by omega⟩
      have e : (4 * db (aY A)) ^ (k + 1) / (4 * db (aY A)) = (4 * db (aY A)) ^ k := by rw [Nat.pow_succ, Nat.mul_div_cancel _ hB]
      obtain ⟨σ2, b1, b2⟩ := t_480 (L := L) (xs0 := xs0) hw' hb rl191 n hl1 hl3 hz (fun q hq => by rw [u6 q hq, ← v1, wd_get (k + 1) _ z (by omega)]) (k + 1) 0 FU σ1 (nI ((4 * db (aY A)) ^ k)) (Nat.zero_add _) (by show _ < 10000000; omega) (.inr (by rw [Nat.add_sub_cancel])) a2
      obtain ⟨σ3, c1, c2⟩ := t_663 (L := L) (xs0 := xs0) (y := y) (g := g) (l := l) (s3 := s3) hA b1 hb rl191 n (x11 := nI (k + 1)) (.inr (.inr ⟨k + 1, hl1, by omega, rfl, u7⟩))
      refine ⟨n, σ3, by omega, c1, ?_⟩
      rw [if_neg (nI_nle (by omega) (by omega)), u5, if_pos rfl]
      unfold FL_law_461
      rw [if_neg (nI_nle hB (by omega)), dzI_ok (nI_ne0 (by omega) (by omega)), pk_div (by omega) (by omega) (by omega), nm_eq, e]
      rw [← c2, ← b2]
      rfl
    · have := p2 _ hhi
      rw [hwl] at this
      omega
/-- the fewest pushes of both boys, and what is behind them -/
theorem t_191 (hL : L ≤ 260) (hw : Lw A y g l (s3 0)) {n : Nat} (hn : n + 500000 ≤ 600000) {σ : Mem} (hX : RX A σ) : FL_law_191 L xs0 FU σ n y g l s3 (nI (4 * db (aY A))) 0 = some 1 := by
  have go : ∀ (boy f n : Nat) (σ : Mem), boy < 2 → n + 5000 ≤ 600000 → RX A σ → ∃ (n' : Nat) (σ' : Mem), n' ≤ n + 5000 ∧ RX A σ' ∧ FL_law_191 L xs0 (f + 1) σ n y g l s3 (nI (4 * db (aY A))) (nI boy) = FL_law_191 L xs0 f σ' n' y g l s3 (nI (4 * db (aY A))) (nI (boy + 1)) := by
    intro boy f n σ hb hn hX
    obtain ⟨n1, x8, x9, x10, q1, q2, q3⟩ := t_210 (L := L) (xs0 := xs0) hw hb σ f n (by omega)
    obtain ⟨n2, σ2, r1, r2, r3⟩ := t_419 (L := L) (xs0 := xs0) hw hb (FL_law_191 L xs0 f) hX n1 (by omega) q2
    exact ⟨n2, σ2, by omega, r2, q3.trans r3⟩
  obtain ⟨n1, σ1, a1, a2, a3⟩ := go 0 9999999 n σ (by decide) (by omega) hX
  obtain ⟨n2, σ2, b1, b2, b3⟩ := go 1 9999998 n1 σ1 (by decide) (by omega) a2
  have e1 : FL_law_191 L xs0 FU σ n y g l s3 (nI (4 * db (aY A))) 0 = _ := a3
  have e2 : FL_law_191 L xs0 9999999 σ1 n1 y g l s3 (nI (4 * db (aY A))) (nI (0 + 1)) = _ := b3
  rw [e1, e2]
  show BL_law_191 L xs0 (FL_law_191 L xs0 9999997) σ2 n2 y g l s3 (nI (4 * db (aY A))) (nI 2) = _
  unfold BL_law_191
  rw [if_pos (show (2 : Int32) ≤ nI 2 by decide)]
  exact t_708 hL hw (by omega) b2
end LI

/-! ===== the reference's push ===== -/
theorem pk_md {a d : Nat} (ha : a < 2 ^ 31) (h0 : 0 < d) (hd : d < 2 ^ 31) : nI a - nI a / nI d * nI d = nI (a % d) := by
  rw [pk_div ha h0 hd, pk_mul, pk_sub (Nat.div_mul_le_self a d)]
  congr 1
  have := Nat.div_add_mod a d
  rw [Nat.mul_comm] at this
  omega
theorem b51 {Y : Yd} (hY : WFY Y) {τ : Mem} (hM : MS' Y τ) (r s0 s1 : Int32) : FX9_beside_51 τ r s0 s1 = some (if 0 ≤ r.toInt ∧ r.toInt < dh Y ∧ 0 ≤ (s1 + s0).toInt ∧ (s1 + s0).toInt < dw Y then r * nI (dw Y) + (s1 + s0) else -9, τ) := by
  have h1 : dh Y ≤ 6 ∧ dw Y ≤ 6 := by rcases hY.1 with q | q <;> omega
  unfold FX9_beside_51
  rw [nm_eq, in_eq, hM.1, i64_toInt, sub1_64 (by omega), show (0 : Int64).toInt = 0 from rfl, bi_some]
  by_cases q : 0 ≤ r.toInt ∧ r.toInt < dh Y
  · rw [if_pos (show 0 ≤ r.toInt ∧ r.toInt ≤ (dh Y : Int) - 1 by omega), if_neg (show ¬ (1 : Int32) = 0 by decide), in_eq, hM.2.1, i64_toInt, sub1_64 (by omega), show (0 : Int64).toInt = 0 from rfl, bi_some]
    by_cases q2 : 0 ≤ (s1 + s0).toInt ∧ (s1 + s0).toInt < dw Y
    · rw [if_pos (show 0 ≤ (s1 + s0).toInt ∧ (s1 + s0).toInt ≤ (dw Y : Int) - 1 by omega), if_neg (show ¬ (1 : Int32) = 0 by decide), if_pos (by omega), hM.2.1]
    · rw [if_neg (show ¬ (0 ≤ (s1 + s0).toInt ∧ (s1 + s0).toInt ≤ (dw Y : Int) - 1) by omega), if_pos rfl, if_neg (by omega)]
  · rw [if_neg (show ¬ (0 ≤ r.toInt ∧ r.toInt ≤ (dh Y : Int) - 1) by omega), if_pos rfl, if_neg (by omega)]
theorem m1_add (n : Nat) : (n = 0 ∧ nI n + (-1) = -1) ∨ ∃ m, n = m + 1 ∧ nI n + (-1) = nI m := by
  cases n with
  | zero => exact .inl ⟨rfl, by decide⟩
  | succ m => exact .inr ⟨m, rfl, pk_m1 m⟩
theorem m1_toInt : (-1 : Int32).toInt = -1 := rfl
theorem i_add0 (x : Int32) : x + 0 = x := Int32.add_zero x
theorem bes_eq {Y : Yd} (hY : WFY Y) {τ : Mem} (hM : MS' Y τ) {c d : Nat} (hc : c < dn Y) (hd : d < 4) : FX9_beside τ (nI c) (nI d) = some (blkI (besN Y c d), τ) := by
  obtain ⟨hw, hy, hx, hm⟩ := cell_rc hc
  have h36 := dn_le hY
  have h1 : dh Y ≤ 6 ∧ dw Y ≤ 6 := by rcases hY.1 with q | q <;> omega
  have hw0 : ¬ τ.1 0 2 = 0 := by rw [hM.2.1]; exact nI_ne0 hw (by omega)
  have b24 : ∀ s0 : Int32, FX9_beside_24 τ (nI c) (nI d) s0 (nI c / nI (dw Y)) = some (if 0 ≤ (nI (c / dw Y) + s0).toInt ∧ (nI (c / dw Y) + s0).toInt < dh Y ∧ 0 ≤ (nI (c % dw Y) + (if d = 1 then 1 else if d = 3 then -1 else 0)).toInt ∧ (nI (c % dw Y) + (if d = 1 then 1 else if d = 3 then -1 else 0)).toInt < dw Y then (nI (c / dw Y) + s0) * nI (dw Y) + (nI (c % dw Y) + (if d = 1 then 1 else if d = 3 then -1 else 0)) else -9, τ) := by
    intro s0
    unfold FX9_beside_24
    rw [nm_eq]
    unfold dzI
    rw [if_neg hw0, hM.2.1, pk_md (by omega) hw (by omega), pk_div (by omega) hw (by omega)]
    rcases (show d = 0 ∨ d = 1 ∨ d = 2 ∨ d = 3 by omega) with rfl | rfl | rfl | rfl
    · rw [if_neg (show ¬ nI 0 = (1 : Int32) by decide), if_neg (show ¬ nI 0 = (3 : Int32) by decide), b51 hY hM]; rfl
    · rw [if_pos (show nI 1 = (1 : Int32) from rfl), b51 hY hM]; rfl
    · rw [if_neg (show ¬ nI 2 = (1 : Int32) by decide), if_neg (show ¬ nI 2 = (3 : Int32) by decide), b51 hY hM]; rfl
    · rw [if_neg (show ¬ nI 3 = (1 : Int32) by decide), if_pos (show nI 3 = (3 : Int32) from rfl), b51 hY hM]; rfl
  have ty : (nI (c / dw Y)).toInt = (c / dw Y : Nat) := nI_toInt (by omega)
  have tx : (nI (c % dw Y)).toInt = (c % dw Y : Nat) := nI_toInt (by omega)
  unfold FX9_beside
  unfold dzI
  rw [if_neg hw0, hM.2.1]
  generalize hyv : c / dw Y = y at *
  generalize hxv : c % dw Y = x at *
  rcases (show d = 0 ∨ d = 1 ∨ d = 2 ∨ d = 3 by omega) with rfl | rfl | rfl | rfl
  · rw [if_pos (show nI 0 = 0 from rfl), b24, show (if (0 : Nat) = 1 then (1 : Int32) else if (0 : Nat) = 3 then -1 else 0) = 0 from rfl, i_add0]
    show _ = some (blkI (if 0 < c / dw Y then some (c - dw Y) else none), τ)
    rw [hyv]
    rcases m1_add y with ⟨rfl, e⟩ | ⟨m, rfl, e⟩
    · rw [e, m1_toInt, if_neg (by omega), if_neg (by omega)]; rfl
    · rw [e, nI_toInt (by omega), tx, if_pos (by omega), if_pos (by omega), pk_mul, nI_add]
      rw [Nat.mul_add] at hm
      rw [show m * dw Y + x = c - dw Y by rw [Nat.mul_comm]; omega]; rfl
  · rw [if_neg (show ¬ nI 1 = 0 by decide), if_neg (show ¬ nI 1 = (2 : Int32) by decide), b24, show (if (1 : Nat) = 1 then (1 : Int32) else if (1 : Nat) = 3 then -1 else 0) = 1 from rfl, i_add0, ty, nI_1, nI_toInt (by omega)]
    show _ = some (blkI (if c % dw Y + 1 < dw Y then some (c + 1) else none), τ)
    rw [hxv]
    by_cases q : x + 1 < dw Y
    · rw [if_pos (by omega), if_pos q, pk_mul, nI_add, show y * dw Y + (x + 1) = c + 1 by rw [Nat.mul_comm]; omega]; rfl
    · rw [if_neg (by omega), if_neg q]; rfl
  · rw [if_neg (show ¬ nI 2 = 0 by decide), if_pos (show nI 2 = (2 : Int32) from rfl), b24, show (if (2 : Nat) = 1 then (1 : Int32) else if (2 : Nat) = 3 then -1 else 0) = 0 from rfl, i_add0, tx, nI_1, nI_toInt (by omega)]
    show _ = some (blkI (if c / dw Y + 1 < dh Y then some (c + dw Y) else none), τ)
    rw [hyv]
    by_cases q : y + 1 < dh Y
    · rw [if_pos (by omega), if_pos q, pk_mul, nI_add, show (y + 1) * dw Y + x = c + dw Y by rw [Nat.mul_comm, Nat.mul_add]; omega]; rfl
    · rw [if_neg (by omega), if_neg q]; rfl
  · rw [if_neg (show ¬ nI 3 = 0 by decide), if_neg (show ¬ nI 3 = (2 : Int32) by decide), b24, show (if (3 : Nat) = 1 then (1 : Int32) else if (3 : Nat) = 3 then -1 else 0) = -1 from rfl, i_add0, ty]
    show _ = some (blkI (if 0 < c % dw Y then some (c - 1) else none), τ)
    rw [hxv]
    rcases m1_add x with ⟨rfl, e⟩ | ⟨m, rfl, e⟩
    · rw [e, m1_toInt, if_neg (by omega), if_neg (by omega)]; rfl
    · rw [e, nI_toInt (by omega), if_pos (by omega), if_pos (by omega), pk_mul, nI_add]
      rw [show y * dw Y + m = c - 1 by rw [Nat.mul_comm]; omega]; rfl
def hoI (h : Option (Nat × Nat)) : Int32 := match h with
  | none => 0
  | some g => nI (2 ^ g.2)
def SlM (Y : Yd) (r : PR) (τ0 τ : Mem) : Prop := (∀ o, o ≠ 0 → o ≠ 4 → τ.1 o = τ0.1 o) ∧ (∀ q, q ≠ 19 → τ.1 0 q = τ0.1 0 q) ∧ (∀ o, o ≠ 0 → τ.2 o = τ0.2 o) ∧ (∀ q, q ≠ 8 → q ≠ 18 → τ.2 0 q = τ0.2 0 q) ∧ EncM Y r.1 (τ.1 4) (τ.2 0 8) ∧ (∀ i, bit64 (τ.2 0 18) i = r.2.1 i) ∧ τ.1 0 19 = hoI r.2.2
theorem ms_cong {Y : Yd} {τ τ' : Mem} (h1 : τ'.1 1 = τ.1 1) (h2 : τ'.1 2 = τ.1 2) (h3 : τ'.1 3 = τ.1 3) (h0 : ∀ q, q = 1 ∨ q = 2 ∨ q = 3 → τ'.1 0 q = τ.1 0 q) (h : MS' Y τ) : MS' Y τ' := by
  unfold MS'
  rw [h1, h2, h3, h0 1 (by omega), h0 2 (by omega), h0 3 (by omega)]
  exact h
theorem slm_ms {Y : Yd} {r : PR} {τ0 τ : Mem} (h : SlM Y r τ0 τ) (hM : MS' Y τ0) : MS' Y τ := ms_cong (h.1 1 (by decide) (by decide)) (h.1 2 (by decide) (by decide)) (h.1 3 (by decide) (by decide)) (fun q hq => h.2.1 q (by omega)) hM
theorem set_set (D : Dy) (k c e : Nat) : setPl (setPl D k c) k e = setPl D k e := by
  unfold setPl
  refine Prod.ext ?_ rfl
  funext j
  show (if j = k then e else if j = k then c else D.1 j) = if j = k then e else D.1 j
  by_cases h : j = k
  · rw [if_pos h, if_pos h]
  · rw [if_neg h, if_neg h, if_neg h]
theorem set_self (D : Dy) (k : Nat) : setPl D k (D.1 k) = D := by
  unfold setPl
  refine Prod.ext ?_ rfl
  funext j
  show (if j = k then D.1 k else D.1 j) = D.1 j
  by_cases h : j = k
  · rw [if_pos h, h]
  · rw [if_neg h]
/-- one block's place is written -/
theorem slm_4 {Y : Yd} {D : Dy} {tr : Nat → Bool} {h : Option (Nat × Nat)} {τ0 τ : Mem} (hS : SlM Y (D, tr, h) τ0 τ) {k p : Nat} (hk : k < db Y) : SlM Y (setPl D k p, tr, h) τ0 (setI τ 4 k (lieI p)) := by
  obtain ⟨a1, a2, a3, a4, a5, a6, a7⟩ := hS
  refine ⟨fun o h0 h4 => by rw [setI_ne1 h4]; exact a1 o h0 h4, fun q hq => by rw [setI_ne1 (by decide)]; exact a2 q hq, a3, a4, ⟨fun j hj => ?_, a5.2⟩, a6, by rw [setI_ne1 (by decide)]; exact a7⟩
  rw [setI_s1]
  show upd (τ.1 4) k (lieI p) j = lieI (if j < db Y then (if j = k then p else D.1 j) else pad Y)
  have hold := a5.1 j hj
  unfold plM at hold
  by_cases e : j = k
  · subst e; rw [if_pos hk, if_pos rfl]; simp [upd]
  · rw [if_neg e]; simp only [upd, if_neg e]; exact hold
theorem slm_18 {Y : Yd} {D : Dy} {tr : Nat → Bool} {h : Option (Nat × Nat)} {τ0 τ : Mem} (hS : SlM Y (D, tr, h) τ0 τ) {e : Nat} (he : e < 64) : SlM Y (D, adT tr e, h) τ0 (setL τ 0 18 ((τ.2 0 18) ||| ((1 : Int64) <<< ((nI e).toInt64 &&& 63)))) := by
  obtain ⟨a1, a2, a3, a4, a5, a6, a7⟩ := hS
  refine ⟨a1, a2, fun o ho => by rw [setL_ne2 ho]; exact a3 o ho, fun q h8 h18 => ?_, a5, fun i => ?_, a7⟩
  · show vp_updL (τ.2 0) 18 _ q = _
    simp only [vp_updL, if_neg h18]
    exact a4 q h8 h18
  · show bit64 ((τ.2 0 18) ||| ((1 : Int64) <<< ((nI e).toInt64 &&& 63))) i = (tr i || decide (i = e))
    rw [w_or, w_one he, a6]
theorem slm_8 {Y : Yd} {D : Dy} {tr : Nat → Bool} {h : Option (Nat × Nat)} {τ0 τ : Mem} (hS : SlM Y (D, tr, h) τ0 τ) {e : Nat} (he : e < dn Y) (h64 : e < 64) (h3 : dg Y e = 3) : SlM Y (filC D e, tr, h) τ0 (setL τ 0 8 ((τ.2 0 8) ||| ((1 : Int64) <<< ((nI e).toInt64 &&& 63)))) := by
  obtain ⟨a1, a2, a3, a4, a5, a6, a7⟩ := hS
  refine ⟨a1, a2, fun o ho => by rw [setL_ne2 ho]; exact a3 o ho, fun q h8 h18 => ?_, ⟨a5.1, fun i => ?_⟩, a6, a7⟩
  · show vp_updL (τ.2 0) 8 _ q = _
    simp only [vp_updL, if_neg h8]
    exact a4 q h8 h18
  · show bit64 ((τ.2 0 8) ||| ((1 : Int64) <<< ((nI e).toInt64 &&& 63))) i = (decide (i < dn Y) && dg Y i == 3 && (i == e || D.2 i))
    rw [w_or, w_one h64, a5.2]
    unfold filM
    by_cases q : i = e
    · subst q; rw [decide_eq_true he, h3]; simp
    · rw [decide_eq_false q, beq_false_of_ne q]; simp
theorem fil_set (D : Dy) (k c e : Nat) : filC (setPl D k c) e = setPl (filC D e) k c := rfl
theorem what_cong {Y : Yd} {T : Nat → Bool} {D D' : Dy} (h : D.2 = D'.2) (e : Nat) : whatD Y T D e = whatD Y T D' e := by
  unfold whatD
  rw [h]
/-- ahead of where a block is all lies as it lay -/
def Ahd (Y : Yd) (d : Nat) (D0 D : Dy) (n : Nat) : Prop := ∀ j, j < db Y → ∀ e, e < dn Y → far Y d e < n → (D.1 j = e ↔ D0.1 j = e)
theorem slm_loop {Y : Yd} (hY : WFY Y) {T : Nat → Bool} (hT : TOk Y T) {D0 D : Dy} (hD : WFD Y D) {τ0 : Mem} (hM : MS' Y τ0) (h17 : ∀ i, bit64 (τ0.2 0 17) i = T i) {k d : Nat} (hk : k < db Y) (hd : d < 4) (hF : D.2 = D0.2) (hA : Ahd Y d D0 D (far Y d (D0.1 k))) : ∀ (n c fuel : Nat) (tr : Nat → Bool) (τ : Mem), c < dn Y → far Y d c < n → far Y d c ≤ far Y d (D0.1 k) → n ≤ fuel → SlM Y (setPl D k c, tr, none) τ0 τ → ∃ τ', FX9_slide_0 fuel τ (nI k) (nI d) = some (blkI (slD Y T D0 D k d n c tr).1, τ') ∧ SlM Y (slD Y T D0 D k d n c tr).2 τ0 τ' := by
  have h36 := dn_le hY
  have h6 := hY.2.1
  intro n
  induction n with
  | zero => intro c fuel tr τ hc hf; omega
  | succ n ih =>
    intro c fuel tr τ hc hf hp hfu hS
    obtain ⟨f, rfl⟩ : ∃ f, fuel = f + 1 := ⟨fuel - 1, by omega⟩
    have hM' := slm_ms hS hM
    have hsk : (setPl D k c).1 k = c := if_pos rfl
    have hl : ∀ j, j < db Y → τ.1 4 j = lieI ((setPl D k c).1 j) := fun j hj => by rw [hS.2.2.2.2.1.1 j (by omega), plM_in hj]
    have un : FX9_slide_0 (f + 1) τ (nI k) (nI d) = BX9_slide_0 (FX9_slide_0 f) τ (nI k) (nI d) := rfl
    rw [un]
    unfold BX9_slide_0
    rw [rd_in (by omega) (by decide), hl k hk, hsk, lie_in (by omega), bes_eq hY hM' hc hd, bi_some]
    cases hb0 : besN Y c d with
    | none =>
      have hn : nxt Y c d = none := by rw [nxt_bes, hb0]; rfl
      rw [sl_wall hn, if_pos (show blkI none < 0 by decide)]
      exact ⟨τ, rfl, hS⟩
    | some e =>
      obtain ⟨he, hfe⟩ := bes_spec hc hb0
      rw [if_neg (show ¬ blkI (some e) < 0 from nI_pos (by omega)), show blkI (some e) = nI e from rfl, rd_in (by omega) (by decide), hM'.2.2.2.1 e he]
      have hge := hY.2.2.1 e he
      by_cases hwall : dg Y e = 1
      · have hn : nxt Y c d = none := by
          rw [nxt_bes, hb0]
          show (if dg Y e = 1 then none else some e) = none
          rw [if_pos hwall]
        rw [sl_wall hn, hwall, if_pos (show nI 1 = (1 : Int32) from rfl)]
        exact ⟨τ, rfl, hS⟩
      · have hn : nxt Y c d = some e := by
          rw [nxt_bes, hb0]
          show (if dg Y e = 1 then none else some e) = some e
          rw [if_neg hwall]
        rw [if_neg (show ¬ nI (dg Y e) = (1 : Int32) from fun q => hwall ((nI_eq (b := 1) (by omega) (by decide)).mp q)), bin_eq hY (wfd_set hD (.inl hc)) hM'.2.2.1 hl (by omega), bi_some]
        have hbc : blkD Y (setPl D k c) e = blkD Y D0 e := by
          refine blkN_cong fun j _ hj => ?_
          show (if j = k then c else D.1 j) = e ↔ D0.1 j = e
          by_cases q : j = k
          · subst q
            rw [if_pos rfl]
            constructor
            · intro z; rw [z] at hfe; omega
            · intro z; rw [z] at hp; omega
          · rw [if_neg q]
            exact hA j (by omega) e he (by omega)
        rw [hbc]
        cases hb : blkD Y D0 e with
        | some j =>
          have hj := (blkD_lt hb).1
          rw [sl_str hn hb, if_neg (show ¬ blkI (some j) < 0 from nI_pos (by omega))]
          exact ⟨τ, rfl, hS⟩
        | none =>
          have hw5 := what_le hY T D0 he
          have hS18 := slm_18 hS (show e < 64 by omega)
          have hM18 := slm_ms hS18 hM
          have hwh : FX9_whatIs (setL τ 0 18 ((τ.2 0 18) ||| ((1 : Int64) <<< ((nI e).toInt64 &&& 63)))) (nI e) = some (nI (whatD Y T D0 e), setL τ 0 18 ((τ.2 0 18) ||| ((1 : Int64) <<< ((nI e).toInt64 &&& 63)))) := by
            rw [wha_eq hY (D := setPl D k c) (T := T) hM18.2.2.2.1 hS18.2.2.2.2.1.2 (fun i => by rw [hS18.2.2.2.1 17 (by decide) (by decide)]; exact h17 i) he, what_cong (D := setPl D k c) (D' := D0) hF]
          have hS4 := slm_4 hS18 (p := e) hk
          rw [set_set, lie_in (by omega)] at hS4
          rw [if_pos (show blkI none < 0 by decide), nm_eq, hwh, bi_some, stI_in (by omega) (by decide)]
          by_cases w3 : whatD Y T D0 e = 3
          · have h3 : dg Y e = 3 := by
              have := (opn_3 (D := D0) hT he).mpr w3
              unfold opnD at this
              simp only [Bool.and_eq_true, beq_iff_eq] at this
              exact this.1.2
            rw [sl_crk hn hb w3, w3, if_pos (show nI 3 = (3 : Int32) from rfl), nm_eq, stI_in (by omega) (by decide)]
            have := slm_4 (slm_8 hS4 he (by omega) h3) (p := 36) hk
            rw [fil_set, set_set, ← fil_set] at this
            exact ⟨_, rfl, this⟩
          · rw [if_neg (show ¬ nI (whatD Y T D0 e) = (3 : Int32) from fun q => w3 ((nI_eq (b := 3) (by omega) (by decide)).mp q))]
            by_cases w4 : 4 ≤ whatD Y T D0 e
            · rw [sl_home hn hb w4, if_neg (show ¬ nI (whatD Y T D0 e) < (4 : Int32) from nI_nlt (b := 4) w4 (by omega))]
              have hh : ∀ g, g < 2 → whatD Y T D0 e = 4 + g → ((-20 : Int32) - (nI (4 + g) - (4 : Int32))) = lieI (37 + g) ∧ (0 : Int32) ||| ((1 : Int32) <<< ((nI (4 + g) - (4 : Int32)) &&& 31)) = nI (2 ^ g) := fun g hg _ => (by decide +kernel : ∀ g, g < 2 → ((-20 : Int32) - (nI (4 + g) - (4 : Int32))) = lieI (37 + g) ∧ (0 : Int32) ||| ((1 : Int32) <<< ((nI (4 + g) - (4 : Int32)) &&& 31)) = nI (2 ^ g)) g hg
              obtain ⟨g, hg⟩ : ∃ g, whatD Y T D0 e = 4 + g := ⟨whatD Y T D0 e - 4, by omega⟩
              obtain ⟨q1, q2⟩ := hh g (by omega) hg
              rw [hg, q1, show 4 + g - 4 = g by omega, stI_in (by omega) (by decide), nm_eq]
              have hS4' := slm_4 hS4 (p := 37 + g) hk
              rw [set_set] at hS4'
              refine ⟨_, rfl, ?_⟩
              obtain ⟨a1, a2, a3, a4, a5, a6, a7⟩ := hS4'
              refine ⟨fun o h0 h4 => by rw [setI_ne1 h0]; exact a1 o h0 h4, fun q hq => ?_, a3, a4, a5, a6, ?_⟩
              · rw [setI_s1]; simp only [upd, if_neg hq]; exact a2 q hq
              · rw [setI_s1]
                simp only [upd, if_true]
                rw [a7]
                exact q2
            · rw [if_pos (show nI (whatD Y T D0 e) < (4 : Int32) from nI_lt (b := 4) (by omega) (by decide))]
              have hkk := (hY.2.2.2.2 k hk).1
              have hk2 : (setI (setL τ 0 18 ((τ.2 0 18) ||| ((1 : Int64) <<< ((nI e).toInt64 &&& 63)))) 4 k (nI e)).1 2 k = nI (dk Y k) := (slm_ms hS4 hM).2.2.2.2.1 k hk
              by_cases w2 : whatD Y T D0 e = 2
              · rw [w2, if_pos (show nI 2 = (2 : Int32) from rfl), rd_in (by omega) (by decide), hk2]
                by_cases q : dk Y k < 2
                · rw [sl_sand hn hb ⟨w2, q⟩, if_neg (show ¬ (2 : Int32) ≤ nI (dk Y k) from nI_ge (b := 2) q (by decide))]
                  exact ⟨_, rfl, hS4⟩
                · rw [sl_on hn hb w3 w4 (fun z => q z.2), if_pos (show (2 : Int32) ≤ nI (dk Y k) from nI_le (a := 2) (by omega) (by omega))]
                  exact ih e f (adT tr e) _ he (by omega) (by omega) (by omega) hS4
              · rw [sl_on hn hb w3 w4 (fun z => w2 z.1), if_neg (show ¬ nI (whatD Y T D0 e) = (2 : Int32) from fun q => w2 ((nI_eq (b := 2) (by omega) (by decide)).mp q))]
                exact ih e f (adT tr e) _ he (by omega) (by omega) (by omega) hS4
theorem chm_loop {Y : Yd} (hY : WFY Y) {T : Nat → Bool} (hT : TOk Y T) {D0 : Dy} {τ0 : Mem} (hM : MS' Y τ0) (h17 : ∀ i, bit64 (τ0.2 0 17) i = T i) {d : Nat} (hd : d < 4) : ∀ (n k fuel : Nat) (D : Dy) (tr : Nat → Bool) (τ : Mem), k < db Y → D0.1 k < dn Y → D.1 k = D0.1 k → far Y d (D0.1 k) < n → n ≤ fuel → WFD Y D → D.2 = D0.2 → Ahd Y d D0 D (far Y d (D0.1 k)) → SlM Y (D, tr, none) τ0 τ → ∃ τ', (bi (FX9_slide τ (nI k) (nI d)) fun r τ1 => FX9_goes_31 fuel τ1 (nI d) (nI k) r) = FX9_goes_59 τ' ∧ SlM Y (chD Y T D0 d n k D tr) τ0 τ' := by
  have h6 := hY.2.1
  intro n
  induction n with
  | zero => intro k fuel D tr τ hk hp he hf; omega
  | succ n ih =>
    intro k fuel D tr τ hk hp he hf hfu hD hF hA hS
    obtain ⟨f, rfl⟩ : ∃ f, fuel = f + 1 := ⟨fuel - 1, by omega⟩
    have hS0 : SlM Y (setPl D k (D0.1 k), tr, none) τ0 τ := by rw [← he, set_self]; exact hS
    obtain ⟨τ1, e1, e2⟩ := slm_loop hY hT hD hM h17 hk hd hF hA 6 (D0.1 k) FU tr τ hp (far_lt hY hp) (Nat.le_refl _) (by show 6 ≤ 10000000; omega) hS0
    unfold FX9_slide
    rw [e1, bi_some]
    obtain ⟨p1, p2, p3, p4, p5, p6⟩ := sl_spec hY T D0 hD k d 6 (D0.1 k) tr hp (far_lt hY hp)
    have hM1 := slm_ms e2 hM
    have hkk := (hY.2.2.2.2 k hk).1
    unfold chD
    have un : ∀ v, FX9_goes_31 (f + 1) τ1 (nI d) (nI k) v = BX9_goes_31 (FX9_goes_31 f) τ1 (nI d) (nI k) v := fun v => rfl
    rw [un]
    unfold BX9_goes_31
    cases hr : (slD Y T D0 D k d 6 (D0.1 k) tr).1 with
    | none =>
      rw [if_pos (show blkI none < 0 by decide)]
      exact ⟨τ1, rfl, e2⟩
    | some j =>
      obtain ⟨j1, j2, j3, j4, j5, j6, j7⟩ := p6 j hr
      rw [if_neg (show ¬ blkI (some j) < 0 from nI_pos (by omega)), rd_in (by omega) (by decide), hM1.2.2.2.2.1 k hk]
      by_cases q : 1 ≤ dk Y k
      · rw [if_neg (nI_nle q (by omega))]
        simp only [if_pos q]
        have e3 : (slD Y T D0 D k d 6 (D0.1 k) tr).2 = ((slD Y T D0 D k d 6 (D0.1 k) tr).2.1, (slD Y T D0 D k d 6 (D0.1 k) tr).2.2.1, none) := by rw [← j1]
        rw [e3] at e2
        have hjk : j ≠ k := fun z => by rw [z] at j6; omega
        have hDj : D.1 j = D0.1 j := (hA j j3 (D0.1 j) j4 (by omega)).mpr rfl
        refine ih j f _ _ τ1 j3 j4 (by rw [p2 j hjk]; exact hDj) (by omega) (by omega) p1 (by rw [j2]; exact hF) (fun i hi e he' hfe => ?_) e2
        by_cases z : i = k
        · subst z
          constructor
          · intro z; rw [z] at j6; omega
          · intro z; have := congrArg (far Y d) z; omega
        · rw [p2 i z]
          exact hA i hi e he' (by omega)
      · rw [if_pos (show nI (dk Y k) ≤ 0 by rw [show dk Y k = 0 by omega]; decide)]
        simp only [if_neg q]
        exact ⟨τ1, rfl, e2⟩
theorem goes_m {Y : Yd} (hY : WFY Y) {T : Nat → Bool} (hT : TOk Y T) {D : Dy} (hD : WFD Y D) {τ : Mem} (hM : MS' Y τ) (h17 : ∀ i, bit64 (τ.2 0 17) i = T i) (hE : EncM Y D (τ.1 4) (τ.2 0 8)) {k d : Nat} (hk : k < db Y) (hd : d < 4) (hP : PuP Y (pushD Y T D k d)) : ∃ τ', FX9_goes τ (nI k) (nI d) = some (if anyT Y (pushD Y T D k d).2.1 then 1 else 0, τ') ∧ SlM Y (pushD Y T D k d) τ τ' := by
  have h6 := hY.2.1
  have hlt := wfd_lt hY hD hk
  have hS : SlM Y (D, fun _ => false, none) τ (setI (setL τ 0 18 0) 0 19 0) := by
    refine ⟨fun o h0 _ => by rw [setI_ne1 h0]; rfl, fun q hq => ?_, fun o ho => ?_, fun q _ h18 => ?_, hE, fun i => w_0 i, rfl⟩
    · rw [setI_s1]; simp only [upd, if_neg hq]; rfl
    · show (setL τ 0 18 0).2 o = τ.2 o
      rw [setL_ne2 ho]
    · show vp_updL (τ.2 0) 18 0 q = _
      simp only [vp_updL, if_neg h18]
  unfold FX9_goes
  rw [nm_eq, nm_eq, rd_in (by omega) (by decide), show (setI (setL τ 0 18 0) 0 19 0).1 4 k = lieI (D.1 k) by
    rw [hS.2.2.2.2.1.1 k (by omega), plM_in hk]]
  unfold pushD at hP ⊢
  by_cases e : D.1 k < 36
  · have hp : D.1 k < dn Y := by rcases hD k hk with z | z | z | z <;> omega
    rw [if_pos e] at hP ⊢
    rw [if_pos ((lie_neg hlt).2.mpr e)]
    obtain ⟨τ', e1, e2⟩ := chm_loop hY hT hM h17 hd 6 k FU D (fun _ => false) _ hk hp rfl (far_lt hY hp) (by show 6 ≤ 10000000; omega) hD rfl (fun j hj e' he' hfe => Iff.rfl) hS
    refine ⟨τ', ?_, e2⟩
    rw [e1]
    unfold FX9_goes_59
    by_cases q : anyT Y (chD Y T D d 6 k D fun _ => false).2.1 = true
    · rw [if_pos q, if_neg (fun z => by rw [any_0 hP.2.1 e2.2.2.2.2.2.1, q] at z; cases z)]; rfl
    · rw [if_neg q, if_pos ((any_0 hP.2.1 e2.2.2.2.2.2.1).mpr (by revert q; cases anyT Y (chD Y T D d 6 k D fun _ => false).2.1 <;> simp))]; rfl
  · rw [if_neg e, if_neg (fun q => e ((lie_neg hlt).2.mp q))]
    have ha : anyT Y (fun _ => false) = false := by unfold anyT; simp
    refine ⟨_, ?_, hS⟩
    rw [ha]; rfl

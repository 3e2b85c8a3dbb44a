/-! ===== rows: the reference's loops; the call ===== -/
theorem rd0 {R : Type} {n : Nat} (h : 0 < n) (hn : n < 2 ^ 31) (f : Nat → Option R) : rd (0 : Int32) n f = f 0 := rd_in (j := 0) h hn f
theorem stL0 {R : Type} {σ : Mem} {o n : Nat} (h : 0 < n) (hn : n < 2 ^ 31) (v : Int64) (f : Mem → Option R) : stL σ o n (0 : Int32) v f = f (setL σ o 0 v) := stL_in (j := 0) h hn v f
theorem give0 (τ : Mem) : FX9_give τ (0 : Int32) = some (givenM τ 0) := give_eq τ (l := 0) (by decide)
theorem hold0 (τ : Mem) : FX9_hold τ (0 : Int32) = some (heldM τ 0) := hold_eq τ (l := 0) (by decide)
theorem gm_36 {Y : Yd} (hY : WFY Y) {τ0 : Mem} {n z : Nat} (hn : n ≤ 3) (hz : z < 20000) (hb : 0 < db Y) : ∀ (r i w fuel : Nat) (D : Dy) (l : Nat → Bool) (τ : Mem), i + r = n → r < fuel → (0 < r → w = (4 * db Y) ^ (r - 1)) → WFD Y D → InM Y T0 τ0 τ → EncM Y D (τ.1 4) (τ.2 0 8) → (∀ j, bit64 (τ.2 25 0) j = l j) → (∀ q, q < i → τ.1 26 q = nI (dgt (4 * db Y) n z q)) → ∃ τ', FX9_goRow_36 fuel τ (nI z) (nI n) (nI w) (nI i) = some (bI (gr Y z r D l).isSome, τ') ∧ InM Y T0 τ0 τ' ∧ (∀ D0, Held Y D0 0 τ → Held Y D0 0 τ') ∧ τ'.1 27 = τ.1 27 ∧ ∀ s, gr Y z r D l = some s → (∀ q, q < n → τ'.1 26 q = nI (dgt (4 * db Y) n z q)) ∧ ∀ j, bit64 (τ'.2 25 0) j = s j := by
  have h6 := hY.2.1
  intro r
  induction r with
  | zero =>
    intro i w fuel D l τ hi hf hw hD hI hE hl hq
    obtain ⟨f, rfl⟩ : ∃ f, fuel = f + 1 := ⟨fuel - 1, by omega⟩
    refine ⟨τ, ?_, hI, fun _ h => h, rfl, fun s hs => ?_⟩
    · show BX9_goRow_36 (FX9_goRow_36 f) τ _ _ _ (nI i) = _
      unfold BX9_goRow_36
      rw [if_pos (nI_le (by omega) (by omega))]
      rfl
    · have : some l = some s := hs
      cases this
      exact ⟨fun q h => hq q (by omega), hl⟩
  | succ r ih =>
    intro i w fuel D l τ hi hf hw hD hI hE hl hq
    obtain ⟨f, rfl⟩ : ∃ f, fuel = f + 1 := ⟨fuel - 1, by omega⟩
    have hw' : w = (4 * db Y) ^ r := hw (Nat.succ_pos _)
    have hw1 : 0 < w := by rw [hw']; exact Nat.pow_pos (by omega)
    have hw2 : w ≤ 13824 := by rw [hw']; exact pw24 (by omega) (by omega)
    have un : FX9_goRow_36 (f + 1) τ (nI z) (nI n) (nI w) (nI i) = BX9_goRow_36 (FX9_goRow_36 f) τ (nI z) (nI n) (nI w) (nI i) := rfl
    rw [un]
    unfold BX9_goRow_36 dzI
    have hp : z / w % (4 * db Y) < 4 * db Y := Nat.mod_lt _ (by omega)
    have hdg : z / w % (4 * db Y) = dgt (4 * db Y) n z i := by
      unfold dgt
      rw [hw', show n - 1 - i = r by omega]
    have hzw : z / w ≤ z := Nat.div_le_self _ _
    rw [if_neg (nI_ge (by omega) (by omega)), if_neg (nI_ne0 hw1 (by omega)), hI.1.2.2.1, n4, if_neg (nI_ne0 (by omega) (by omega)), nm_eq, pk_div (by omega) hw1 (by omega), pk_md (by omega) (by omega) (by omega), stI_in (by omega) (by decide), if_neg (show ¬ (4 : Int32) = 0 by decide), if_neg (show ¬ (4 : Int32) = 0 by decide), m4 (by omega), d4 (by omega)]
    have hI1 : InM Y T0 τ0 (setI τ 26 i (nI (z / w % (4 * db Y)))) := ⟨frm_ms (frm_setI (by omega)) hI.1, hI.2.1, frm_trans hI.2.2 (frm_setI (by omega))⟩
    have hE1 : EncM Y D ((setI τ 26 i (nI (z / w % (4 * db Y)))).1 4) ((setI τ 26 i (nI (z / w % (4 * db Y)))).2 0 8) := by rw [setI_ne1 (by decide)]; exact hE
    obtain ⟨τ1, g1, g2, g3⟩ := gom hY (t0_ok Y) hD hI1 hE1 hp
    have hh1 : ∀ D0, Held Y D0 0 τ → Held Y D0 0 τ1 := fun D0 h => by
      refine sl_held g2 ?_
      unfold Held
      rw [setI_ne1 (by decide)]
      exact h
    have h271 : τ1.1 27 = τ.1 27 := by rw [g2.1 27 (by decide) (by decide), setI_ne1 (by decide)]
    have h261 : ∀ q, q < i + 1 → τ1.1 26 q = nI (dgt (4 * db Y) n z q) := fun q h => by
      rw [g2.1 26 (by decide) (by decide), setI_s1]
      by_cases e : q = i
      · subst e
        simp only [upd, if_true]
        rw [hdg]
      · simp only [upd, if_neg e]
        exact hq q (by omega)
    rw [g1, bi_some]
    have hgr : gr Y z (r + 1) D l = if anyT Y (pp Y T0 D (z / w % (4 * db Y))).2.1 then gr Y z r (pp Y T0 D (z / w % (4 * db Y))).1 (orT l (pp Y T0 D (z / w % (4 * db Y))).2.1) else none := by rw [hw']; rfl
    rw [hgr]
    cases ha : anyT Y (pp Y T0 D (z / w % (4 * db Y))).2.1
    · rw [if_neg (show ¬ false = true by decide), if_pos rfl, if_neg (show ¬ false = true by decide)]
      exact ⟨τ1, rfl, g3, hh1, h271, fun s hs => by cases hs⟩
    · rw [if_pos rfl, if_neg (show ¬ (1 : Int32) = 0 by decide), if_pos rfl, rd0 (by decide) (by decide), stL0 (by decide) (by decide)]
      have hI2 : InM Y T0 τ0 (setL τ1 25 0 ((τ1.2 25 0) ||| (τ1.2 0 18))) := ⟨frm_ms (frm_setL (by omega)) g3.1, fun j => by rw [setL_ne2 (by decide)]; exact g3.2.1 j, frm_trans g3.2.2 (frm_setL (by omega))⟩
      have hE2 : EncM Y (pp Y T0 D (z / w % (4 * db Y))).1 ((setL τ1 25 0 ((τ1.2 25 0) ||| (τ1.2 0 18))).1 4) ((setL τ1 25 0 ((τ1.2 25 0) ||| (τ1.2 0 18))).2 0 8) := by rw [setL_ne2 (by decide)]; exact g2.2.2.2.2.1
      have hl2 : ∀ j, bit64 ((setL τ1 25 0 ((τ1.2 25 0) ||| (τ1.2 0 18))).2 25 0) j = orT l (pp Y T0 D (z / w % (4 * db Y))).2.1 j := fun j => by
        rw [setL2, w_or, g2.2.2.2.2.2.1 j, g2.2.2.1 25 (by decide)]
        rw [show (setI τ 26 i (nI (z / w % (4 * db Y)))).2 25 0 = τ.2 25 0 from rfl, hl]; rfl
      have hD2 := (pu_ok hY hD (T := T0) (k := z / w % (4 * db Y) / 4) (d := z / w % (4 * db Y) % 4) (by omega)).1
      have fin : ∀ w2 : Nat, (0 < r → w2 = (4 * db Y) ^ (r - 1)) → ∃ τ', FX9_goRow_36 f (setL τ1 25 0 ((τ1.2 25 0) ||| (τ1.2 0 18))) (nI z) (nI n) (nI w2) (nI (i + 1)) = some (bI (gr Y z r (pp Y T0 D (z / w % (4 * db Y))).1 (orT l (pp Y T0 D (z / w % (4 * db Y))).2.1)).isSome, τ') ∧ InM Y T0 τ0 τ' ∧ (∀ D0, Held Y D0 0 τ → Held Y D0 0 τ') ∧ τ'.1 27 = τ.1 27 ∧ ∀ s, gr Y z r (pp Y T0 D (z / w % (4 * db Y))).1 (orT l (pp Y T0 D (z / w % (4 * db Y))).2.1) = some s → (∀ q, q < n → τ'.1 26 q = nI (dgt (4 * db Y) n z q)) ∧ ∀ j, bit64 (τ'.2 25 0) j = s j := by
        intro w2 hw2'
        obtain ⟨τ', r1, r2, r3, r4, r5⟩ := ih (i + 1) w2 f _ _ _ (by omega) (by omega) hw2' hD2 hI2 hE2 hl2 h261
        refine ⟨τ', r1, r2, fun D0 h => r3 D0 ?_, r4.trans h271, r5⟩
        have := hh1 D0 h
        unfold Held at this ⊢
        rw [setL_ne2 (by decide)]
        exact this
      rw [hI2.1.2.2.1, n4, if_neg (nI_ne0 (by omega) (by omega)), pk_div (by omega) (by omega) (by omega), nI_1]
      by_cases hr0 : r = 0
      · subst hr0
        have : w / (4 * db Y) = 0 := Nat.div_eq_of_lt (by rw [hw', Nat.pow_zero]; omega)
        rw [this, if_neg (show ¬ (1 : Int32) ≤ nI 0 by decide), nm_eq]
        exact fin 1 (fun h => absurd h (Nat.lt_irrefl 0))
      · obtain ⟨r', rfl⟩ : ∃ r', r = r' + 1 := ⟨r - 1, by omega⟩
        have hwd : w / (4 * db Y) = (4 * db Y) ^ r' := by
          rw [hw', Nat.pow_succ, Nat.mul_div_cancel _ (by omega)]
        have hge : 1 ≤ (4 * db Y) ^ r' := Nat.pow_pos (by omega)
        have hlt : (4 * db Y) ^ r' ≤ 13824 := pw24 (by omega) (by omega)
        rw [hwd, if_pos (show (1 : Int32) ≤ nI ((4 * db Y) ^ r') from nI_le (a := 1) hge (by omega)), if_neg (nI_ne0 (by omega) (by omega)), nm_eq, nm_eq]
        exact fin _ (fun _ => rfl)
theorem gm_5 {Y : Yd} (hY : WFY Y) {τ : Mem} (hM : MS' Y τ) {n z : Nat} (hn : n ≤ 3) : ∀ (m i fuel : Nat), i + m = n → m < fuel → FX9_goRow_5 fuel τ (nI z) (nI n) (nI ((4 * db Y) ^ (i - 1))) (nI i) = FX9_goRow_36 FU (setL τ 25 0 0) (nI z) (nI n) (nI ((4 * db Y) ^ (n - 1))) (nI 0) ∨ i = 0 := by
  have h6 := hY.2.1
  intro m
  induction m with
  | zero =>
    intro i fuel hi hf
    obtain ⟨f, rfl⟩ : ∃ f, fuel = f + 1 := ⟨fuel - 1, by omega⟩
    left
    show BX9_goRow_5 (FX9_goRow_5 f) τ _ _ _ (nI i) = _
    unfold BX9_goRow_5
    rw [if_pos (nI_le (by omega) (by omega)), show (0 : Int32) = nI 0 from rfl, stL_in (by decide) (by decide), show i = n by omega]
  | succ m ih =>
    intro i fuel hi hf
    obtain ⟨f, rfl⟩ : ∃ f, fuel = f + 1 := ⟨fuel - 1, by omega⟩
    by_cases h0 : i = 0
    · exact .inr h0
    · left
      have e : FX9_goRow_5 (f + 1) τ (nI z) (nI n) (nI ((4 * db Y) ^ (i - 1))) (nI i) = FX9_goRow_5 f τ (nI z) (nI n) (nI ((4 * db Y) ^ (i + 1 - 1))) (nI (i + 1)) := by
        show BX9_goRow_5 (FX9_goRow_5 f) τ _ _ _ (nI i) = _
        unfold BX9_goRow_5
        rw [if_neg (nI_ge (by omega) (by omega)), hM.2.2.1, n4, pk_mul, nm_eq, nm_eq, nI_1]
        obtain ⟨i', rfl⟩ : ∃ i', i = i' + 1 := ⟨i - 1, by omega⟩
        rw [show i' + 1 - 1 = i' from rfl, show i' + 1 + 1 - 1 = i' + 1 from rfl, Nat.pow_succ]
      rw [e]
      rcases ih (i + 1) f (by omega) (by omega) with h | h
      · exact h
      · omega
/-- a row tried, from the yard as it is -/
theorem gor_eq {Y : Yd} (hY : WFY Y) {τ0 τ : Mem} {n z : Nat} (hn : 1 ≤ n ∧ n ≤ 3) (hz : z < 20000) (hb : 0 < db Y) {D : Dy} (hD : WFD Y D) (hI : InM Y T0 τ0 τ) (hE : EncM Y D (τ.1 4) (τ.2 0 8)) : ∃ τ', FX9_goRow τ (nI z) (nI n) = some (bI (gr Y z n D (fun _ => false)).isSome, τ') ∧ InM Y T0 τ0 τ' ∧ (∀ D0, Held Y D0 0 τ → Held Y D0 0 τ') ∧ τ'.1 27 = τ.1 27 ∧ ∀ s, gr Y z n D (fun _ => false) = some s → (∀ q, q < n → τ'.1 26 q = nI (dgt (4 * db Y) n z q)) ∧ ∀ j, bit64 (τ'.2 25 0) j = s j := by
  have hI1 : InM Y T0 τ0 (setL τ 25 0 0) := ⟨frm_ms (frm_setL (by omega)) hI.1, fun j => by rw [setL_ne2 (by decide)]; exact hI.2.1 j, frm_trans hI.2.2 (frm_setL (by omega))⟩
  obtain ⟨τ', r1, r2, r3, r4, r5⟩ := gm_36 hY hn.2 hz hb n 0 ((4 * db Y) ^ (n - 1)) FU D (fun _ => false) (setL τ 25 0 0) (Nat.zero_add _) (by show n < 10000000; omega) (fun _ => rfl) hD hI1 (by rw [setL_ne2 (by decide)]; exact hE) (fun j => by rw [setL2, w_0]) (fun q hq => absurd hq (Nat.not_lt_zero _))
  refine ⟨τ', ?_, r2, fun D0 h => r3 D0 ?_, r4, r5⟩
  · rw [← r1]
    unfold FX9_goRow
    rcases gm_5 hY hI.1 (z := z) hn.2 (n - 1) 1 FU (by omega) (by show _ < 10000000; omega) with h | h
    · exact h
    · omega
  · unfold Held at h ⊢
    rw [setL_ne2 (by decide)]
    exact h
theorem cpy_131 (rl : Mem → Int32 → Int64 → Int32 → Int32 → Int32 → Int32 → Option (Int32 × Mem)) (n : Nat) (hn : n ≤ 3) (tr : Int64) (q all c z : Int32) : ∀ (m i fuel : Nat) (τ : Mem), i + m = n → m < fuel → ∃ τ', FX9_rows_131 rl fuel τ (nI n) tr q all c z (nI i) = rl τ' (nI n) tr q all (c + 1) (z + 1) ∧ (∀ o, o ≠ 27 → τ'.1 o = τ.1 o) ∧ τ'.2 = τ.2 ∧ (∀ j, i ≤ j → j < n → τ'.1 27 j = τ.1 26 j) ∧ ∀ j, j < i → τ'.1 27 j = τ.1 27 j := by
  intro m
  induction m with
  | zero =>
    intro i fuel τ hi hf
    obtain ⟨f, rfl⟩ : ∃ f, fuel = f + 1 := ⟨fuel - 1, by omega⟩
    refine ⟨τ, ?_, fun _ _ => rfl, rfl, fun j h1 h2 => by omega, fun _ _ => rfl⟩
    show BX9_rows_131 rl (FX9_rows_131 rl f) τ _ _ _ _ _ _ (nI i) = _
    unfold BX9_rows_131
    rw [if_pos (nI_le (by omega) (by omega)), nm_eq, nm_eq]
  | succ m ih =>
    intro i fuel τ hi hf
    obtain ⟨f, rfl⟩ : ∃ f, fuel = f + 1 := ⟨fuel - 1, by omega⟩
    obtain ⟨τ', r1, r2, r3, r4, r5⟩ := ih (i + 1) f (setI τ 27 i (τ.1 26 i)) (by omega) (by omega)
    refine ⟨τ', ?_, fun o ho => by rw [r2 o ho, setI_ne1 ho], r3, fun j h1 h2 => ?_, fun j hj => ?_⟩
    · rw [← r1]
      show BX9_rows_131 rl (FX9_rows_131 rl f) τ _ _ _ _ _ _ (nI i) = _
      unfold BX9_rows_131
      rw [if_neg (nI_ge (by omega) (by omega)), rd_in (by omega) (by decide), stI_in (by omega) (by decide), nm_eq, nI_1]
    · by_cases e : j = i
      · subst e
        rw [r5 j (by omega), setI_s1]; simp [upd]
      · rw [r4 j (by omega) h2, setI_ne1 (by decide)]
    · rw [r5 j (by omega), setI_s1]
      simp only [upd]
      rw [if_neg (by omega)]
def rowsA (B n : Nat) (L : List Nat) (q : Int32) : Int32 := if q = -1 then nI L.length else match L.head? with
  | none => -9
  | some z => nI (num (dgt B n z q.toInt.toNat))
theorem rm_90 {Y : Yd} (hY : WFY Y) {τ0 : Mem} {D : Dy} (hD : WFD Y D) {n : Nat} (hn : 1 ≤ n ∧ n ≤ 3) {tr : Int64} {q : Int32} (hq : -1 ≤ q.toInt ∧ q.toInt < n) : ∀ (m z fuel : Nat) (τ : Mem), z + m = (4 * db Y) ^ n → m < fuel → InM Y T0 τ0 τ → Held Y D 0 τ → (∀ h, (flt (vr Y (bit64 tr) n D (fun _ => false)) 0 z).head? = some h → ∀ q, q < n → τ.1 27 q = nI (dgt (4 * db Y) n h q)) → ∃ τ', FX9_rows_90 fuel τ (nI n) tr q (nI ((4 * db Y) ^ n)) (nI (flt (vr Y (bit64 tr) n D (fun _ => false)) 0 z).length) (nI z) = some (rowsA (4 * db Y) n (flt (vr Y (bit64 tr) n D (fun _ => false)) 0 ((4 * db Y) ^ n)) q, τ') ∧ InM Y T0 τ0 τ' ∧ EncM Y D (τ'.1 4) (τ'.2 0 8) := by
  have h6 := hY.2.1
  have hpw := pw24 (B := 4 * db Y) (n := n) (by omega) hn.2
  have hlen : ∀ z, (flt (vr Y (bit64 tr) n D (fun _ => false)) 0 z).length ≤ z := by
    intro z
    induction z with
    | zero => exact Nat.zero_le _
    | succ z ihz =>
      rw [flt_add, List.length_append]
      have : (flt (vr Y (bit64 tr) n D (fun _ => false)) (0 + z) 1).length ≤ 1 := by
        unfold flt
        cases vr Y (bit64 tr) n D (fun _ => false) (0 + z) <;> simp [flt]
      omega
  intro m
  induction m with
  | zero =>
    intro z fuel τ hz hf hI hH h27
    obtain ⟨f, rfl⟩ : ∃ f, fuel = f + 1 := ⟨fuel - 1, by omega⟩
    have e : z = (4 * db Y) ^ n := by omega
    refine ⟨givenM τ 0, ?_, inm_given hI 0, given_enc hH⟩
    show BX9_rows_90 (FX9_rows_90 f) τ _ _ _ _ _ (nI z) = _
    unfold BX9_rows_90
    rw [if_pos (nI_le (by omega) (by omega)), show (0 : Int32) = nI 0 from rfl, give_eq τ (by decide), bv_some, e]
    rw [e] at h27
    have hl := hlen ((4 * db Y) ^ n)
    unfold rowsA
    by_cases hqm : q = -1
    · subst hqm
      rw [if_neg (show ¬ nI 0 ≤ (-1 : Int32) by decide), if_pos rfl]
    · have hq0 : 0 ≤ q.toInt := by
        rcases (show q.toInt = -1 ∨ 0 ≤ q.toInt by omega) with w | w
        · exact absurd (Int32.toInt_inj.mp w) hqm
        · exact w
      obtain ⟨j, hj, rfl⟩ := blk (n := n) (a := q) ⟨hq0, hq.2⟩
      rw [if_pos (show nI 0 ≤ nI j from nI_le (Nat.zero_le _) (by omega)), if_neg hqm, nI_toInt (by omega)]
      cases hL : flt (vr Y (bit64 tr) n D (fun _ => false)) 0 ((4 * db Y) ^ n) with
      | nil =>
        rw [if_pos (show nI ([] : List Nat).length = nI 0 from rfl)]; rfl
      | cons a L' =>
        rw [hL] at hl h27
        have hdl : dgt (4 * db Y) n a j < 4 * db Y ∨ 4 * db Y = 0 := by
          rcases Nat.eq_zero_or_pos (4 * db Y) with w | w
          · exact .inr w
          · exact .inl (Nat.mod_lt _ w)
        have hB0 : 4 * db Y ≠ 0 := by
          intro w
          rw [w, Nat.zero_pow (by omega)] at hl
          simp only [List.length_cons] at hl
          omega
        have h27' : (givenM τ 0).1 27 j = nI (dgt (4 * db Y) n a j) := h27 a rfl j hj
        unfold dzI
        rw [if_neg (show ¬ nI (a :: L').length = nI 0 from fun w => by
          have := (nI_eq (by omega) (by omega)).mp w
          simp only [List.length_cons] at this
          omega), rd_in (by omega) (by decide), if_neg (show ¬ (4 : Int32) = 0 by decide), rd_in (by omega) (by decide), if_neg (show ¬ (4 : Int32) = 0 by decide), h27', m4 (by omega), d4 (by omega), show (10 : Int32) * nI (dgt (4 * db Y) n a j / 4) + nI (dgt (4 * db Y) n a j % 4) = nI (num (dgt (4 * db Y) n a j)) by
          rw [show (10 : Int32) = nI 10 from rfl, pk_mul, nI_add]; rfl]
        rfl
  | succ m ih =>
    intro z fuel τ hz hf hI hH h27
    obtain ⟨f, rfl⟩ : ∃ f, fuel = f + 1 := ⟨fuel - 1, by omega⟩
    have hb : 0 < db Y := by
      rcases Nat.eq_zero_or_pos (db Y) with w | w
      · rw [w] at hz
        simp only [Nat.mul_zero] at hz
        rw [Nat.zero_pow (by omega)] at hz
        omega
      · exact w
    have un : FX9_rows_90 (f + 1) τ (nI n) tr q (nI ((4 * db Y) ^ n)) (nI (flt (vr Y (bit64 tr) n D (fun _ => false)) 0 z).length) (nI z) = BX9_rows_90 (FX9_rows_90 f) τ (nI n) tr q (nI ((4 * db Y) ^ n)) (nI (flt (vr Y (bit64 tr) n D (fun _ => false)) 0 z).length) (nI z) := rfl
    rw [un]
    unfold BX9_rows_90
    have hE : EncM Y D ((givenM τ 0).1 4) ((givenM τ 0).2 0 8) := given_enc hH
    obtain ⟨τ1, g1, g2, g3, g4, g5⟩ := gor_eq hY hn (z := z) (by omega) hb hD (inm_given hI 0) hE
    have hH1 : Held Y D 0 τ1 := g3 D (given_held hH)
    have h271 : τ1.1 27 = τ.1 27 := g4
    have hst : flt (vr Y (bit64 tr) n D (fun _ => false)) 0 (z + 1) = flt (vr Y (bit64 tr) n D (fun _ => false)) 0 z ++ if vr Y (bit64 tr) n D (fun _ => false) z then [z] else [] := by
      rw [flt_add, Nat.zero_add]
      show _ ++ ((if vr Y (bit64 tr) n D (fun _ => false) z then [z] else []) ++ []) = _
      rw [List.append_nil]
    have ihz := ih (z + 1) f
    rw [hst] at ihz
    have hlz := hlen z
    have hno : vr Y (bit64 tr) n D (fun _ => false) z = false → ∃ τ', FX9_rows_90 f τ1 (nI n) tr q (nI ((4 * db Y) ^ n)) (nI (flt (vr Y (bit64 tr) n D (fun _ => false)) 0 z).length) (nI (z + 1)) = some (rowsA (4 * db Y) n (flt (vr Y (bit64 tr) n D (fun _ => false)) 0 ((4 * db Y) ^ n)) q, τ') ∧ InM Y T0 τ0 τ' ∧ EncM Y D (τ'.1 4) (τ'.2 0 8) := by
      intro hv
      rw [hv, if_neg (by decide), List.append_nil] at ihz
      exact ihz τ1 (by omega) (by omega) g2 hH1 (by rw [h271]; exact h27)
    rw [if_neg (nI_ge (by omega) (by omega)), give0, bv_some, g1, bi_some]
    cases hg : gr Y z n D (fun _ => false) with
    | none =>
      rw [if_pos (show bI (none : Option (Nat → Bool)).isSome = 0 from rfl), nm_eq, nI_1]
      exact hno (by unfold vr; rw [hg])
    | some s =>
      obtain ⟨s1, s2⟩ := g5 s hg
      have hv : vr Y (bit64 tr) n D (fun _ => false) z = eqT s (bit64 tr) := by unfold vr; rw [hg]
      have he : lg_cmp (τ1.2 25 0) tr = 0 ↔ eqT s (bit64 tr) = true := by
        rw [lg_eq, eqT_iff]
        constructor
        · intro h i _; rw [← s2 i, h]
        · intro h; exact w_ext fun i hi => by rw [s2 i, h i hi]
      rw [if_neg (show ¬ bI (some s).isSome = 0 by show ¬ bI true = 0; decide), rd0 (by decide) (by decide)]
      by_cases heq : eqT s (bit64 tr) = true
      · rw [if_pos (he.mpr heq)]
        have hvt : vr Y (bit64 tr) n D (fun _ => false) z = true := by rw [hv]; exact heq
        rw [hvt, if_pos rfl, List.length_append] at ihz
        have hlen1 : ([z] : List Nat).length = 1 := rfl
        rw [hlen1] at ihz
        by_cases h0 : (flt (vr Y (bit64 tr) n D (fun _ => false)) 0 z).length = 0
        · have hnil := List.length_eq_zero_iff.mp h0
          rw [h0, if_pos (show nI 0 = 0 from rfl)]
          obtain ⟨τ2, c1, c2, c3, c4, c5⟩ := cpy_131 (FX9_rows_90 f) n hn.2 tr q (nI ((4 * db Y) ^ n)) (nI 0) (nI z) n 0 FU τ1 (Nat.zero_add _) (by show n < 10000000; omega)
          have c1' : FX9_rows_131 (FX9_rows_90 f) FU τ1 (nI n) tr q (nI ((4 * db Y) ^ n)) (nI 0) (nI z) 0 = _ := c1
          rw [c1', nI_1, nI_1]
          have hfr : FrM τ1 τ2 := ⟨fun o ho => c2 o (by omega), fun o ho => by rw [c2 0 (by decide)], fun o ho => by rw [c3]⟩
          rw [h0] at ihz
          refine ihz τ2 (by omega) (by omega) ⟨frm_ms hfr g2.1, fun j => by rw [c3]; exact g2.2.1 j, frm_trans g2.2.2 hfr⟩ ?_ (fun h hh q' hq' => ?_)
          · unfold Held
            rw [c2 8 (by decide), c3]
            exact hH1
          · rw [hnil] at hh
            have : some z = some h := hh
            cases this
            rw [c4 q' (Nat.zero_le _) hq']
            exact s1 q' hq'
        · rw [if_neg (nI_ne0 (by omega) (by omega)), nm_eq, nm_eq, nI_1, nI_1]
          refine ihz τ1 (by omega) (by omega) g2 hH1 (fun h hh q' hq' => ?_)
          rw [h271]
          refine h27 h ?_ q' hq'
          cases hL : flt (vr Y (bit64 tr) n D (fun _ => false)) 0 z with
          | nil => rw [hL] at h0; exact absurd rfl h0
          | cons a L' => rw [hL] at hh; exact hh
      · rw [if_neg (fun w => heq (he.mp w)), nm_eq, nI_1]
        exact hno (by rw [hv]; revert heq; cases eqT s (bit64 tr) <;> simp)

/-! ===== the class's push: what is loaded; goes ===== -/
def XLd (Y : Yd) (σ : Mem) : Prop := σ.2 2 2 = -1 ∨ ∃ D : Dy, WFD Y D ∧ EncX Y D (σ.2 2 2) ∧ (∀ k, k < db Y → σ.1 22 k = nI (D.1 k)) ∧ (∀ i, bit64 (σ.2 2 3) i = occD Y D i) ∧ ∀ i, bit64 (σ.2 2 4) i = opnD Y D i
def occN (D : Dy) (n q : Nat) : Bool := (List.range n).any (fun k => D.1 k == q && decide (D.1 k < 36))
theorem occN_s (D : Dy) (n q : Nat) : occN D (n + 1) q = (occN D n q || (D.1 n == q && decide (D.1 n < 36))) := by
  unfold occN
  rw [List.range_succ, List.any_append]
  simp
theorem occN_all {Y : Yd} (hY : WFY Y) {D : Dy} (hD : WFD Y D) (q : Nat) : occN D (db Y) q = occD Y D q := by
  have h36 := dn_le hY
  unfold occD
  apply Bool.eq_iff_iff.mpr
  unfold occN
  simp only [List.any_eq_true, List.mem_range, Bool.and_eq_true, beq_iff_eq, decide_eq_true_eq]
  constructor
  · rintro ⟨k, hk, e, h⟩
    refine ⟨?_, k, hk, e⟩
    rcases hD k hk with z | z | z | z <;> omega
  · rintro ⟨h, k, hk, e⟩
    exact ⟨k, hk, e, by omega⟩
def LdF (σ0 σ : Mem) : Prop := (∀ o, o ≠ 22 → σ.1 o = σ0.1 o) ∧ (∀ o, o ≠ 2 → σ.2 o = σ0.2 o) ∧ σ.2 2 5 = σ0.2 2 5
theorem ld_loop {Y : Yd} (hY : WFY Y) {D : Dy} (hD : WFD Y D) {σ0 : Mem} (hX : XS Y σ0) {y : Int64} (hy : EncX Y D y) : ∀ (m i fuel : Nat) (σ : Mem), i + m = db Y → m < fuel → LdF σ0 σ → (∀ k, k < i → σ.1 22 k = nI (D.1 k)) → (∀ q, bit64 (σ.2 2 3) q = occN D i q) → ∃ σ', FX6_load_7 fuel σ y (nI i) = some σ' ∧ LdF σ0 σ' ∧ σ'.2 2 2 = y ∧ (∀ k, k < db Y → σ'.1 22 k = nI (D.1 k)) ∧ (∀ q, bit64 (σ'.2 2 3) q = occD Y D q) ∧ ∀ q, bit64 (σ'.2 2 4) q = opnD Y D q := by
  have h6 := hY.2.1
  intro m
  induction m with
  | zero =>
    intro i fuel σ hi hf hF hk hq
    obtain ⟨f, rfl⟩ : ∃ f, fuel = f + 1 := ⟨fuel - 1, by omega⟩
    have hi' : i = db Y := by omega
    subst hi'
    have hX' : XS Y σ := xs_cong (hF.1 1 (by decide)) (hF.1 18 (by decide)) (hF.1 19 (by decide)) (hF.1 20 (by decide)) (hF.1 21 (by decide)) (hF.2.1 1 (by decide)) hX
    obtain ⟨o, ho, hb⟩ := opn_eq hY hX' hy
    refine ⟨setL (setL σ 2 4 o) 2 2 y, ?_, ⟨hF.1, fun q hq => by rw [setL_ne2 hq, setL_ne2 hq]; exact hF.2.1 q hq, hF.2.2⟩, rfl, hk, fun q => ?_, hb⟩
    · show BX6_load_7 (FX6_load_7 f) σ y _ = _
      unfold BX6_load_7
      rw [hX'.2.2.1, if_pos (nI_le (Nat.le_refl _) (by omega))]
      unfold FX6_load_65
      rw [ho, bi_some, nm_eq, nm_eq]
    · show bit64 (σ.2 2 3) q = _
      rw [hq, occN_all hY hD]
  | succ m ih =>
    intro i fuel σ hi hf hF hk hq
    obtain ⟨f, rfl⟩ : ∃ f, fuel = f + 1 := ⟨fuel - 1, by omega⟩
    have hX' : XS Y σ := xs_cong (hF.1 1 (by decide)) (hF.1 18 (by decide)) (hF.1 19 (by decide)) (hF.1 20 (by decide)) (hF.1 21 (by decide)) (hF.2.1 1 (by decide)) hX
    have hlt := wfd_lt hY hD (show i < db Y by omega)
    have hF1 : LdF σ0 (setI σ 22 i (nI (D.1 i))) := ⟨fun o ho => by rw [setI_ne1 ho]; exact hF.1 o ho, hF.2.1, hF.2.2⟩
    have hk1 : ∀ k, k < i + 1 → (setI σ 22 i (nI (D.1 i))).1 22 k = nI (D.1 k) := fun k hk' => by
      rw [setI_s1]
      by_cases e : k = i
      · subst e; simp [upd]
      · simp only [upd, if_neg e]
        exact hk k (by omega)
    have un : FX6_load_7 (f + 1) σ y (nI i) = if D.1 i < 36 then FX6_load_7 f (setL (setI σ 22 i (nI (D.1 i))) 2 3 ((σ.2 2 3) ||| ((1 : Int64) <<< ((nI (D.1 i)).toInt64 &&& 63)))) y (nI (i + 1)) else FX6_load_7 f (setI σ 22 i (nI (D.1 i))) y (nI (i + 1)) := by
      show BX6_load_7 (FX6_load_7 f) σ y (nI i) = _
      unfold BX6_load_7
      rw [hX'.2.2.1, if_neg (nI_ge (by omega) (by omega)), if_neg (show ¬ (6 : Int32) ≤ nI i from nI_ge (b := 6) (by omega) (by omega)), pof_eq hY hD hy (by omega), bi_some, stI_in (by omega) (by decide)]
      by_cases e : D.1 i < 36
      · rw [if_neg (show ¬ (36 : Int32) ≤ nI (D.1 i) from nI_ge (b := 36) (by omega) (by omega)), if_pos e, nm_eq, nm_eq, nI_1]; rfl
      · rw [if_pos (show (36 : Int32) ≤ nI (D.1 i) from nI_le (a := 36) (by omega) (by omega)), if_neg e, nm_eq, nI_1]
    rw [un]
    by_cases e : D.1 i < 36
    · rw [if_pos e]
      refine ih (i + 1) f _ (by omega) (by omega) ⟨hF1.1, fun o ho => by rw [setL_ne2 ho]; exact hF1.2.1 o ho, hF1.2.2⟩ hk1 fun q => ?_
      show bit64 ((σ.2 2 3) ||| ((1 : Int64) <<< ((nI (D.1 i)).toInt64 &&& 63))) q = _
      rw [w_or, w_one (by omega), hq, occN_s, decide_eq_true e, Bool.and_true]
      congr 1
      by_cases z : q = D.1 i
      · rw [decide_eq_true z]; simp [z]
      · rw [decide_eq_false z, beq_false_of_ne (fun h => z h.symm)]
    · rw [if_neg e]
      refine ih (i + 1) f _ (by omega) (by omega) hF1 hk1 fun q => ?_
      show bit64 (σ.2 2 3) q = _
      rw [hq, occN_s, decide_eq_false e, Bool.and_false, Bool.or_false]
theorem ld_eq {Y : Yd} (hY : WFY Y) {D : Dy} (hD : WFD Y D) {σ : Mem} (hX : XS Y σ) {y : Int64} (hy : EncX Y D y) : ∃ σ', FX6_load σ y = some σ' ∧ LdF σ σ' ∧ σ'.2 2 2 = y ∧ (∀ k, k < db Y → σ'.1 22 k = nI (D.1 k)) ∧ (∀ q, bit64 (σ'.2 2 3) q = occD Y D q) ∧ ∀ q, bit64 (σ'.2 2 4) q = opnD Y D q := by
  have h6 := hY.2.1
  unfold FX6_load
  rw [nm_eq]
  exact ld_loop hY hD hX hy (db Y) 0 FU _ (Nat.zero_add _) (by show _ < 10000000; omega) ⟨fun _ _ => rfl, fun o ho => setL_ne2 ho, rfl⟩ (fun k hk => absurd hk (Nat.not_lt_zero _)) (fun q => by
    show bit64 0 q = _
    rw [w_0]; rfl)
theorem occ_cong {Y : Yd} {D D' : Dy} (e : EqD Y D D') (i : Nat) : occD Y D i = occD Y D' i := by
  unfold occD
  congr 1
  apply Bool.eq_iff_iff.mpr
  simp only [List.any_eq_true, List.mem_range, beq_iff_eq]
  constructor
  · rintro ⟨k, hk, q⟩; exact ⟨k, hk, by rw [← e.1 k hk]; exact q⟩
  · rintro ⟨k, hk, q⟩; exact ⟨k, hk, by rw [e.1 k hk]; exact q⟩
theorem opn_cong {Y : Yd} {D D' : Dy} (e : EqD Y D D') (i : Nat) : opnD Y D i = opnD Y D' i := by
  unfold opnD
  by_cases h : i < dn Y ∧ dg Y i = 3
  · rw [e.2 i h.1 h.2]
  · by_cases h1 : i < dn Y
    · rw [show (dg Y i == 3) = false from beq_false_of_ne (fun q => h ⟨h1, q⟩)]; simp
    · rw [decide_eq_false h1]; simp
/-- the slider behind a push -/
def GoX (Y : Yd) (r : PR) (σ σ' : Mem) : Prop := (∀ o, o ≠ 2 → o ≠ 22 → σ'.1 o = σ.1 o) ∧ (∀ o, o ≠ 2 → σ'.2 o = σ.2 o) ∧ σ'.2 2 5 = σ.2 2 5 ∧ XLd Y σ' ∧ EncX Y r.1 (σ'.2 2 6) ∧ (∀ i, bit64 (σ'.2 2 7) i = r.2.1 i) ∧ σ'.1 2 8 = hbI r.2.2 ∧ σ'.1 2 9 = hgI r.2.2
theorem go14 {Y : Yd} (hY : WFY Y) {T : Nat → Bool} (hT : TOk Y T) {D : Dy} (hD : WFD Y D) {σ : Mem} (hL : LdX Y T D σ) {y : Int64} (hy : EncX Y D y) (hld : σ.2 2 2 = y) {k d : Nat} (hk : k < db Y) (hd : d < 4) : ∃ σ', FX6_goes_14 σ y (nI k) (nI d) = some (if anyT Y (pushD Y T D k d).2.1 then 1 else 0, σ') ∧ SlX Y (pushD Y T D k d) σ σ' ∧ PuP Y (pushD Y T D k d) := by
  have h6 := hY.2.1
  have h36 := dn_le hY
  have hlt := wfd_lt hY hD hk
  have hS : SlX Y (D, fun _ => false, none) σ (setI (setI (setL (setL σ 2 6 y) 2 7 0) 2 8 (-1)) 2 9 (-1)) := by
    refine ⟨fun o ho => by rw [setI_ne1 ho, setI_ne1 ho]; rfl, fun o ho => ?_, rfl, rfl, rfl, rfl, hy, fun i => w_0 i, rfl, rfl⟩
    show (setL (setL σ 2 6 y) 2 7 0).2 o = σ.2 o
    rw [setL_ne2 ho, setL_ne2 ho]
  have hL' := sl_ld hS hL
  unfold FX6_goes_14
  rw [nm_eq, nm_eq, nm_eq, nm_eq, hab_eq hL'.1.2.2.1 h6, if_pos (by rw [nI_toInt (by omega)]; omega), bi_some, if_neg (show ¬ (1 : Int32) = 0 by decide), rd_in (by omega) (by decide), hL'.2.1 k hk]
  unfold pushD
  by_cases e : D.1 k < 36
  · have hp : D.1 k < dn Y := by rcases hD k hk with z | z | z | z <;> omega
    rw [if_pos e, if_pos (show nI (D.1 k) < (36 : Int32) from nI_lt (b := 36) e (by decide))]
    obtain ⟨σ', e1, e2, e3⟩ := chx_loop hY hT hD hL hd 6 k 0 FU D (fun _ => false) _ hk hp (far_lt hY hp) rfl (by show 6 < 10000000; omega) hD (fun i h => by cases h) hS
    refine ⟨σ', ?_, e2, e3⟩
    rw [show (0 : Int32) = nI 0 from rfl, e1]
    unfold FX6_goes_92
    by_cases q : anyT Y (chD Y T D d 6 k D fun _ => false).2.1 = true
    · rw [if_pos q, if_neg (fun z => by rw [any_0 e3.2.1 e2.2.2.2.2.2.2.2.1, q] at z; cases z)]; rfl
    · rw [if_neg q, if_pos ((any_0 e3.2.1 e2.2.2.2.2.2.2.2.1).mpr (by revert q; cases anyT Y (chD Y T D d 6 k D fun _ => false).2.1 <;> simp))]; rfl
  · rw [if_neg e, if_neg (show ¬ nI (D.1 k) < (36 : Int32) from nI_nlt (b := 36) (by omega) (by omega))]
    have ha : anyT Y (fun _ => false) = false := by unfold anyT; simp
    refine ⟨_, ?_, hS, ⟨hD, (fun i h => by cases h), (fun g h => by cases h)⟩⟩
    rw [ha]; rfl
theorem goes_x {Y : Yd} (hY : WFY Y) {T : Nat → Bool} (hT : TOk Y T) {D : Dy} (hD : WFD Y D) {σ : Mem} (hX : XS Y σ) (hL : XLd Y σ) (h5 : ∀ i, bit64 (σ.2 2 5) i = T i) {y : Int64} (hy : EncX Y D y) {k d : Nat} (hk : k < db Y) (hd : d < 4) : ∃ σ', FX6_goes σ y (nI k) (nI d) = some (if anyT Y (pushD Y T D k d).2.1 then 1 else 0, σ') ∧ GoX Y (pushD Y T D k d) σ σ' ∧ PuP Y (pushD Y T D k d) := by
  have fin : ∀ σ1 σ' : Mem, σ1.2 2 2 = y → LdX Y T D σ1 → (∀ o, o ≠ 22 → σ1.1 o = σ.1 o) → (∀ o, o ≠ 2 → σ1.2 o = σ.2 o) → σ1.2 2 5 = σ.2 2 5 → SlX Y (pushD Y T D k d) σ1 σ' → GoX Y (pushD Y T D k d) σ σ' := by
    intro σ1 σ' hy1 hL1 f1 f2 f5 hS
    have hL' := sl_ld hS hL1
    obtain ⟨a1, a2, a3, a4, a5, a6, a7, a8, a9, a10⟩ := hS
    refine ⟨fun o h2 h22 => by rw [a1 o h2, f1 o h22], fun o h2 => by rw [a2 o h2, f2 o h2], by rw [a6, f5], .inr ⟨D, hD, ?_, hL'.2.1, hL'.2.2.1, hL'.2.2.2.1⟩, a7, a8, a9, a10⟩
    rw [a3, hy1]; exact hy
  unfold FX6_goes
  by_cases hq : y = σ.2 2 2
  · rw [if_pos (lg_eq.mpr hq)]
    have hL1 : LdX Y T D σ := by
      rcases hL with z | ⟨D', hD', he', hp, ho, hn⟩
      · exact absurd (hq.trans z) (encX_ne hY.2.2.2.1 hy)
      · rw [← hq] at he'
        have eq := enc_inj hY hD' hD he' hy
        exact ⟨hX, fun k hk => by rw [hp k hk, eq.1 k hk], fun i => by rw [ho, occ_cong eq], fun i => by rw [hn, opn_cong eq], h5⟩
    obtain ⟨σ', e1, e2, e3⟩ := go14 hY hT hD hL1 hy hq.symm hk hd
    exact ⟨σ', e1, fin σ σ' hq.symm hL1 (fun _ _ => rfl) (fun _ _ => rfl) rfl e2, e3⟩
  · rw [if_neg (fun z => hq (lg_eq.mp z))]
    obtain ⟨σ1, l1, l2, l3, l4, l5, l6⟩ := ld_eq hY hD hX hy
    have hL1 : LdX Y T D σ1 := ⟨xs_cong (l2.1 1 (by decide)) (l2.1 18 (by decide)) (l2.1 19 (by decide)) (l2.1 20 (by decide)) (l2.1 21 (by decide)) (l2.2.1 1 (by decide)) hX, l4, l5, l6, fun i => by rw [l2.2.2]; exact h5 i⟩
    rw [l1, bv_some]
    obtain ⟨σ', e1, e2, e3⟩ := go14 hY hT hD hL1 hy l3 hk hd
    exact ⟨σ', e1, fin σ1 σ' l3 hL1 l2.1 l2.2.1 l2.2.2 e2, e3⟩

/-! ===== the class's push, to its end ===== -/
theorem slx_6 {Y : Yd} {D : Dy} {tr : Nat → Bool} {h : Option (Nat × Nat)} {D' : Dy} {σ0 σ : Mem} (hS : SlX Y (D, tr, h) σ0 σ) {y : Int64} (he : EncX Y D' y) : SlX Y (D', tr, h) σ0 (setL σ 2 6 y) := by
  obtain ⟨a1, a2, a3, a4, a5, a6, a7, a8, a9, a10⟩ := hS
  exact ⟨a1, fun o ho => by rw [setL_ne2 ho]; exact a2 o ho, a3, a4, a5, a6, he, a8, a9, a10⟩
theorem slx_7 {Y : Yd} {D : Dy} {tr : Nat → Bool} {h : Option (Nat × Nat)} {σ0 σ : Mem} (hS : SlX Y (D, tr, h) σ0 σ) {e : Nat} (he : e < 64) : SlX Y (D, adT tr e, h) σ0 (setL σ 2 7 ((σ.2 2 7) ||| ((1 : Int64) <<< ((nI e).toInt64 &&& 63)))) := by
  obtain ⟨a1, a2, a3, a4, a5, a6, a7, a8, a9, a10⟩ := hS
  refine ⟨a1, fun o ho => by rw [setL_ne2 ho]; exact a2 o ho, a3, a4, a5, a6, a7, fun i => ?_, a9, a10⟩
  show bit64 ((σ.2 2 7) ||| ((1 : Int64) <<< ((nI e).toInt64 &&& 63))) i = (tr i || decide (i = e))
  rw [w_or, w_one he, a8]
theorem lv_eq {Y : Yd} (hY : WFY Y) {T : Nat → Bool} (hT : TOk Y T) {D0 D : Dy} {tr : Nat → Bool} {σ0 σ : Mem} (hL : LdX Y T D0 σ0) (hS : SlX Y (D, tr, none) σ0 σ) {k e : Nat} (hk : k < db Y) (he : e < dn Y) (hw : whatD Y T D0 e = 3 ∨ 4 ≤ whatD Y T D0 e) : ∃ σ', FX6_leave σ (nI k) (nI e) = some σ' ∧ SlX Y (if whatD Y T D0 e = 3 then (filC (setPl D k 36) e, tr, none) else (setPl D k (37 + (whatD Y T D0 e - 4)), tr, some (k, whatD Y T D0 e - 4))) σ0 σ' := by
  have h36 := dn_le hY
  have h5 := what_le hY T D0 he
  have hL' := sl_ld hS hL
  have ho := hL'.2.2.2.1 e
  by_cases w3 : whatD Y T D0 e = 3
  · rw [if_pos w3]
    have hd3 : dg Y e = 3 := by
      have := (opn_3 (D := D0) hT he).mpr w3
      unfold opnD at this
      simp only [Bool.and_eq_true, beq_iff_eq] at this
      exact this.1.2
    obtain ⟨y1, e1, f1⟩ := wpl_eq hY hS.2.2.2.2.2.2.1 hk (p := 36) (by decide) σ
    obtain ⟨y2, e2, f2⟩ := fil_eq hY hL'.1 f1 he hd3
    refine ⟨setL σ 2 6 y2, ?_, slx_6 hS f2⟩
    unfold FX6_leave
    rw [has_t _ (by omega) (ho.trans ((opn_3 hT he).mpr w3)), bi_some, if_neg (show ¬ (1 : Int32) = 0 by decide), show (36 : Int32) = nI 36 from rfl, e1, bi_some, e2, bi_some, nm_eq]
  · rw [if_neg w3]
    have hof : opnD Y D0 e = false := by
      cases q : opnD Y D0 e
      · rfl
      · exact absurd ((opn_3 hT he).mp q) w3
    have hg0 := hL'.1.2.2.2.2.2.2.2.1 e
    rw [decide_eq_true he, Bool.true_and] at hg0
    have key : ∀ g : Nat, whatD Y T D0 e = 4 + g → bit64 (σ.2 1 10) e = decide (g = 0) → g < 2 → ∃ σ', FX6_leave σ (nI k) (nI e) = some σ' ∧ SlX Y (setPl D k (37 + g), tr, some (k, g)) σ0 σ' := by
      intro g hg hb hg2
      have hS2 : SlX Y (D, tr, some (k, g)) σ0 (setI (setI σ 2 8 (nI k)) 2 9 (nI g)) := by
        obtain ⟨a1, a2, a3, a4, a5, a6, a7, a8, a9, a10⟩ := hS
        exact ⟨fun o ho => by rw [setI_ne1 ho, setI_ne1 ho]; exact a1 o ho, a2, a3, a4, a5, a6, a7, a8, rfl, rfl⟩
      obtain ⟨y1, e1, f1⟩ := wpl_eq hY hS.2.2.2.2.2.2.1 hk (p := 37 + g) (by omega) (setI (setI σ 2 8 (nI k)) 2 9 (nI g))
      refine ⟨setL (setI (setI σ 2 8 (nI k)) 2 9 (nI g)) 2 6 y1, ?_, slx_6 hS2 f1⟩
      have e59 : FX6_leave_59 (setI σ 2 8 (nI k)) (nI k) (nI g) = some (setL (setI (setI σ 2 8 (nI k)) 2 9 (nI g)) 2 6 y1) := by
        unfold FX6_leave_59
        rw [nm_eq, show ((37 : Int32) + ((setI (setI σ 2 8 (nI k)) 2 9 (nI g)).1 2 9)) = nI (37 + g) by
          rw [show (setI (setI σ 2 8 (nI k)) 2 9 (nI g)).1 2 9 = nI g from rfl, show (37 : Int32) = nI 37 from rfl, nI_add]]
        rw [show (setI (setI σ 2 8 (nI k)) 2 9 (nI g)).2 2 6 = σ.2 2 6 from rfl, e1, bi_some, nm_eq]
      unfold FX6_leave
      rw [has_f _ (by omega) (ho.trans hof), bi_some, if_pos rfl, nm_eq]
      by_cases g0 : g = 0
      · subst g0
        rw [has_t (σ := setI σ 2 8 (nI k)) ((setI σ 2 8 (nI k)).2 1 10) (by omega) (hb.trans rfl), bi_some, if_neg (show ¬ (1 : Int32) = 0 by decide)]
        exact e59
      · have g1 : g = 1 := by omega
        subst g1
        rw [has_f (σ := setI σ 2 8 (nI k)) ((setI σ 2 8 (nI k)).2 1 10) (by omega) (hb.trans rfl), bi_some, if_pos rfl]
        exact e59
    rcases (show whatD Y T D0 e = 4 ∨ whatD Y T D0 e = 5 by omega) with q | q
    · have := key 0 q (by rw [hg0, (what_4 hT 4 (by omega)).mp q]; rfl) (by omega)
      rw [q]
      exact this
    · have := key 1 q (by rw [hg0, (what_4 hT 5 (by omega)).mp q]; rfl) (by omega)
      rw [q]
      exact this
theorem s114_eq {Y : Yd} (hY : WFY Y) {T : Nat → Bool} {D0 D : Dy} (hD0 : WFD Y D0) {tr : Nat → Bool} {σ0 σ : Mem} (hL : LdX Y T D0 σ0) (hS : SlX Y (D, tr, none) σ0 σ) {k c : Nat} (hk : k < db Y) (hc : c < dn Y) (n : Option Nat) (hn : ∀ e, n = some e → e < dn Y) : ∃ σ', FX6_slideOne_114 σ (nI k) (nI (dk Y k)) (nI c) (wayI n) = some (if 1 ≤ dk Y k then strI (n.bind (blkD Y D0)) else -1, σ') ∧ SlX Y (setPl D k c, tr, none) σ0 σ' := by
  have h36 := dn_le hY
  have hkk := (hY.2.2.2.2 k hk).1
  obtain ⟨y1, e1, f1⟩ := wpl_eq hY hS.2.2.2.2.2.2.1 hk (p := c) (by omega) σ
  have hS' := slx_6 hS f1
  have hL' := sl_ld hS' hL
  refine ⟨setL σ 2 6 y1, ?_, hS'⟩
  unfold FX6_slideOne_114
  rw [e1, bi_some, nm_eq]
  cases n with
  | none =>
    rw [if_pos (show wayI none < 0 by decide)]
    by_cases q : 1 ≤ dk Y k
    · rw [if_pos q]; rfl
    · rw [if_neg q]
  | some e =>
    have he := hn e rfl
    rw [if_neg (show ¬ wayI (some e) < 0 from nI_pos (by omega))]
    by_cases q : 1 ≤ dk Y k
    · rw [if_neg (show ¬ nI (dk Y k) < (1 : Int32) from nI_nlt (b := 1) q (by omega)), if_pos q, show wayI (some e) = nI e from rfl, xbi_eq hY hD0 hL'.1.2.2.1 hL'.2.1 (by omega), bi_some]
      rfl
    · rw [if_pos (show nI (dk Y k) < (1 : Int32) from nI_lt (b := 1) (by omega) (by decide)), if_neg q]
theorem slx_loop {Y : Yd} (hY : WFY Y) {T : Nat → Bool} (hT : TOk Y T) {D0 : Dy} (hD0 : WFD Y D0) {σ0 : Mem} (hL : LdX Y T D0 σ0) {D : Dy} {k d : Nat} (hk : k < db Y) (hd : d < 4) {x5 x7 : Int64} (h5 : ∀ e, e < dn Y → bit64 x5 e = (decide (dk Y k < 2) && decide (whatD Y T D0 e = 2))) (h7 : ∀ e, e < dn Y → bit64 x7 e = (decide (whatD Y T D0 e = 3) || decide (4 ≤ whatD Y T D0 e))) : ∀ (n c s fuel : Nat) (tr : Nat → Bool) (σ : Mem), c < dn Y → far Y d c < n → n + s = 6 → n ≤ fuel → SlX Y (D, tr, none) σ0 σ → ∃ σ', FX6_slideOne_78 fuel σ (nI k) (nI d) (nI (dk Y k)) (nI c) x5 x7 (nI s) = some (if 1 ≤ dk Y k then strI (slD Y T D0 D k d n c tr).1 else -1, σ') ∧ SlX Y (slD Y T D0 D k d n c tr).2 σ0 σ' := by
  have h36 := dn_le hY
  intro n
  induction n with
  | zero => intro c s fuel tr σ hc hf; omega
  | succ n ih =>
    intro c s fuel tr σ hc hf hs hfu hS
    obtain ⟨f, rfl⟩ : ∃ f, fuel = f + 1 := ⟨fuel - 1, by omega⟩
    have hL' := sl_ld hS hL
    have un : FX6_slideOne_78 (f + 1) σ (nI k) (nI d) (nI (dk Y k)) (nI c) x5 x7 (nI s) = BX6_slideOne_78 (FX6_slideOne_78 f) σ (nI k) (nI d) (nI (dk Y k)) (nI c) x5 x7 (nI s) := rfl
    rw [un]
    unfold BX6_slideOne_78
    rw [if_neg (show ¬ (36 : Int32) ≤ nI s from nI_ge (b := 36) (by omega) (by decide)), way_eq hY hL'.1 hc hd, bi_some]
    cases hn : nxt Y c d with
    | none =>
      rw [sl_wall hn, if_pos (show wayI none < 0 by decide)]
      exact s114_eq hY hD0 hL hS hk hc none (fun e h => by cases h)
    | some e =>
      obtain ⟨he, hfe⟩ := nxt_spec hc hn
      rw [if_neg (show ¬ wayI (some e) < 0 from nI_pos (by omega)), show wayI (some e) = nI e from rfl]
      have hoc := hL'.2.2.1 e
      cases hb : blkD Y D0 e with
      | some j =>
        rw [sl_str hn hb, has_t _ (by omega) (hoc.trans ((occ_iff he).mpr ⟨j, hb⟩)), bi_some, if_neg (show ¬ (1 : Int32) = 0 by decide)]
        have := s114_eq hY hD0 hL hS hk hc (some e) (fun e' h => by cases h; exact he)
        rw [show (some e).bind (blkD Y D0) = some j from hb] at this
        exact this
      | none =>
        rw [has_f _ (by omega) (hoc.trans (occ_f he hb)), bi_some, if_pos rfl, nm_eq]
        have hS7 := slx_7 hS (show e < 64 by omega)
        by_cases w3 : whatD Y T D0 e = 3
        · rw [sl_crk hn hb w3, has_t _ (by omega) ((h7 e he).trans (by rw [decide_eq_true w3]; rfl)), bi_some, if_neg (show ¬ (1 : Int32) = 0 by decide)]
          obtain ⟨σ', e1, e2⟩ := lv_eq hY hT hL hS7 hk he (.inl w3)
          rw [if_pos w3] at e2
          refine ⟨σ', ?_, e2⟩
          rw [e1, bv_some]
          by_cases q : 1 ≤ dk Y k
          · rw [if_pos q]; rfl
          · rw [if_neg q]
        · by_cases w4 : 4 ≤ whatD Y T D0 e
          · rw [sl_home hn hb w4, has_t _ (by omega) ((h7 e he).trans (by rw [decide_eq_true w4, Bool.or_true])), bi_some, if_neg (show ¬ (1 : Int32) = 0 by decide)]
            obtain ⟨σ', e1, e2⟩ := lv_eq hY hT hL hS7 hk he (.inr w4)
            rw [if_neg w3] at e2
            refine ⟨σ', ?_, e2⟩
            rw [e1, bv_some]
            by_cases q : 1 ≤ dk Y k
            · rw [if_pos q]; rfl
            · rw [if_neg q]
          · rw [has_f _ (by omega) ((h7 e he).trans (by rw [decide_eq_false w3, decide_eq_false w4]; rfl)), bi_some, if_pos rfl]
            by_cases w2 : whatD Y T D0 e = 2 ∧ dk Y k < 2
            · rw [sl_sand hn hb w2, has_t _ (by omega) ((h5 e he).trans (by rw [decide_eq_true w2.1, decide_eq_true w2.2]; rfl)), bi_some, if_neg (show ¬ (1 : Int32) = 0 by decide)]
              obtain ⟨y1, e1, f1⟩ := wpl_eq hY hS7.2.2.2.2.2.2.1 hk (p := e) (by omega) (setL σ 2 7 ((σ.2 2 7) ||| ((1 : Int64) <<< ((nI e).toInt64 &&& 63))))
              refine ⟨_, ?_, slx_6 hS7 f1⟩
              rw [e1, bi_some, nm_eq]
              by_cases q : 1 ≤ dk Y k
              · rw [if_pos q]; rfl
              · rw [if_neg q]
            · rw [sl_on hn hb w3 w4 w2, has_f _ (by omega) ((h5 e he).trans (by
                by_cases q : dk Y k < 2
                · rw [decide_eq_false (fun z => w2 ⟨z, q⟩), Bool.and_false]
                · rw [decide_eq_false q, Bool.false_and])), bi_some, if_pos rfl, nm_eq, nI_1]
              exact ih e (s + 1) f (adT tr e) _ he (by omega) (by omega) (by omega) hS7
theorem slo_eq {Y : Yd} (hY : WFY Y) {T : Nat → Bool} (hT : TOk Y T) {D0 : Dy} (hD0 : WFD Y D0) {σ0 : Mem} (hL : LdX Y T D0 σ0) {D : Dy} {k d : Nat} (hk : k < db Y) (hd : d < 4) {tr : Nat → Bool} {σ : Mem} (hp : D0.1 k < dn Y) (hS : SlX Y (D, tr, none) σ0 σ) : ∃ σ', FX6_slideOne σ (nI k) (nI d) = some (if 1 ≤ dk Y k then strI (slD Y T D0 D k d 6 (D0.1 k) tr).1 else -1, σ') ∧ SlX Y (slD Y T D0 D k d 6 (D0.1 k) tr).2 σ0 σ' := by
  have h6 := hY.2.1
  have hL' := sl_ld hS hL
  have hkk := (hY.2.2.2.2 k hk).1
  have h7 : ∀ e, e < dn Y → bit64 (((σ.2 2 4) ||| (σ.2 1 10)) ||| (σ.2 1 11)) e = (decide (whatD Y T D0 e = 3) || decide (4 ≤ whatD Y T D0 e)) := by
    intro e he
    have h5 := what_le hY T D0 he
    rw [w_or, w_or, hL'.2.2.2.1 e, hL'.1.2.2.2.2.2.2.2.1 e, hL'.1.2.2.2.2.2.2.2.2.1 e, decide_eq_true he, Bool.true_and, Bool.true_and]
    apply Bool.eq_iff_iff.mpr
    simp only [Bool.or_eq_true, decide_eq_true_eq, beq_iff_eq, opn_3 hT he]
    rw [← what_4 (D := D0) hT 4 (by omega), ← what_4 (D := D0) hT 5 (by omega)]
    omega
  unfold FX6_slideOne
  rw [hab_eq hL'.1.2.2.1 h6, if_pos (by rw [nI_toInt (by omega)]; omega), bi_some, if_neg (show ¬ (1 : Int32) = 0 by decide), kin_eq hL'.1 h6 hk, bi_some, rd_in (by omega) (by decide), nm_eq, hL'.2.1 k hk]
  have go : ∀ x5 : Int64, (∀ e, e < dn Y → bit64 x5 e = (decide (dk Y k < 2) && decide (whatD Y T D0 e = 2))) → ∃ σ', FX6_slideOne_51 σ (nI k) (nI d) (nI (dk Y k)) (nI (D0.1 k)) x5 = some (if 1 ≤ dk Y k then strI (slD Y T D0 D k d 6 (D0.1 k) tr).1 else -1, σ') ∧ SlX Y (slD Y T D0 D k d 6 (D0.1 k) tr).2 σ0 σ' := by
    intro x5 h5
    unfold FX6_slideOne_51
    rw [nm_eq]
    exact slx_loop hY hT hD0 hL hk hd h5 h7 6 (D0.1 k) 0 FU tr σ hp (far_lt hY hp) rfl (by show 6 ≤ 10000000; omega) hS
  by_cases q : nI (dk Y k) = (2 : Int32)
  · rw [if_pos q]
    have e2 : dk Y k = 2 := (nI_eq (b := 2) (by omega) (by omega)).mp q
    refine go 0 fun e he => ?_
    rw [w_0, e2]
    rfl
  · rw [if_neg q]
    have e2 : dk Y k < 2 := by
      rcases Nat.lt_or_ge (dk Y k) 2 with z | z
      · exact z
      · exact absurd (show nI (dk Y k) = nI 2 by rw [show dk Y k = 2 by omega]) q
    refine go _ fun e he => ?_
    rw [w_or, hL'.1.2.2.2.2.2.2.1 e, hL'.2.2.2.2 e, decide_eq_true he, decide_eq_true e2, Bool.true_and, Bool.true_and]
    apply Bool.eq_iff_iff.mpr
    rw [decide_eq_true_eq, what_2, Bool.or_eq_true, beq_iff_eq]
/-- the tracks are in the yard -/
theorem any_0 {Y : Yd} {tr : Nat → Bool} (ht : ∀ i, tr i = true → i < dn Y) {y : Int64} (hb : ∀ i, bit64 y i = tr i) : lg_cmp y 0 = 0 ↔ anyT Y tr = false := by
  rw [lg_eq, w_eq0]
  unfold anyT
  rw [List.any_eq_false]
  constructor
  · intro h i hi q
    have hlt := ht i q
    by_cases h64 : i < 64
    · have := h i h64
      rw [hb, q] at this; cases this
    · have := w_big (a := y) (i := i) (by omega)
      rw [hb, q] at this; cases this
  · intro h i hi
    rw [hb]
    cases q : tr i
    · rfl
    · exact absurd q (h i (List.mem_range.mpr (ht i q)))
/-- what holds of a push's end -/
def PuP (Y : Yd) (r : PR) : Prop := WFD Y r.1 ∧ (∀ i, r.2.1 i = true → i < dn Y) ∧ ∀ g, r.2.2 = some g → g.1 < db Y ∧ g.2 < 2
theorem chx_loop {Y : Yd} (hY : WFY Y) {T : Nat → Bool} (hT : TOk Y T) {D0 : Dy} (hD0 : WFD Y D0) {σ0 : Mem} (hL : LdX Y T D0 σ0) {d : Nat} (hd : d < 4) : ∀ (n k s fuel : Nat) (D : Dy) (tr : Nat → Bool) (σ : Mem), k < db Y → D0.1 k < dn Y → far Y d (D0.1 k) < n → n + s = 6 → n < fuel → WFD Y D → (∀ i, tr i = true → i < dn Y) → SlX Y (D, tr, none) σ0 σ → ∃ σ', FX6_goes_64 fuel σ (nI d) (nI k) (nI s) = FX6_goes_92 σ' ∧ SlX Y (chD Y T D0 d n k D tr) σ0 σ' ∧ PuP Y (chD Y T D0 d n k D tr) := by
  have h6 := hY.2.1
  intro n
  induction n with
  | zero => intro k s fuel D tr σ hk hp hf; omega
  | succ n ih =>
    intro k s fuel D tr σ hk hp hf hs hfu hD htr hS
    obtain ⟨f, rfl⟩ : ∃ f, fuel = f + 1 := ⟨fuel - 1, by omega⟩
    obtain ⟨σ', e1, e2⟩ := slo_eq hY hT hD0 hL hk hd hp hS
    have un : FX6_goes_64 (f + 1) σ (nI d) (nI k) (nI s) = FX6_goes_64 f σ' (nI d) (if 1 ≤ dk Y k then strI (slD Y T D0 D k d 6 (D0.1 k) tr).1 else -1) (nI (s + 1)) := by
      show BX6_goes_64 (FX6_goes_64 f) σ (nI d) (nI k) (nI s) = _
      unfold BX6_goes_64
      rw [if_neg (show ¬ (6 : Int32) ≤ nI s from nI_ge (b := 6) (by omega) (by decide)), if_neg (nI_pos (by omega)), e1, bi_some, nm_eq, nI_1]
    rw [un]
    obtain ⟨p1, p2, p3, p4, p5, p6⟩ := sl_spec hY T D0 hD k d 6 (D0.1 k) tr hp (far_lt hY hp)
    have hP : PuP Y (slD Y T D0 D k d 6 (D0.1 k) tr).2 := ⟨p1, fun i h => by
      rcases p3 i h with q | q
      · exact htr i q
      · exact q, fun g h => by have := p4 g h; exact ⟨by omega, this.2.1⟩⟩
    have stop : ∀ v : Int32, v < 0 → ∃ f', f = f' + 1 ∧ FX6_goes_64 f σ' (nI d) v (nI (s + 1)) = FX6_goes_92 σ' := by
      intro v hv
      refine ⟨f - 1, by omega, ?_⟩
      obtain ⟨f', rfl⟩ : ∃ f', f = f' + 1 := ⟨f - 1, by omega⟩
      show BX6_goes_64 (FX6_goes_64 f') σ' (nI d) v (nI (s + 1)) = _
      unfold BX6_goes_64
      by_cases q : (6 : Int32) ≤ nI (s + 1)
      · rw [if_pos q]
      · rw [if_neg q, if_pos hv]
    unfold chD
    cases hr : (slD Y T D0 D k d 6 (D0.1 k) tr).1 with
    | none =>
      have hv : (if 1 ≤ dk Y k then strI none else -1) = (-1 : Int32) := by
        by_cases q : 1 ≤ dk Y k
        · rw [if_pos q]; rfl
        · rw [if_neg q]
      rw [hv]
      obtain ⟨_, _, e3⟩ := stop (-1) (by decide)
      exact ⟨σ', e3, e2, hP⟩
    | some j =>
      obtain ⟨j1, j2, j3, j4, j5, j6, j7⟩ := p6 j hr
      by_cases q : 1 ≤ dk Y k
      · simp only [if_pos q]
        refine ih j (s + 1) f _ _ σ' j3 j4 (by omega) (by omega) (by omega) p1 hP.2.1 ?_
        have : (slD Y T D0 D k d 6 (D0.1 k) tr).2 = ((slD Y T D0 D k d 6 (D0.1 k) tr).2.1, (slD Y T D0 D k d 6 (D0.1 k) tr).2.2.1, none) := by rw [← j1]
        rw [this] at e2
        exact e2
      · simp only [if_neg q]
        obtain ⟨_, _, e3⟩ := stop (-1) (by decide)
        exact ⟨σ', e3, e2, hP⟩

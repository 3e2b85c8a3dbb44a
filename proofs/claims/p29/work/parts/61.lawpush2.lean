/-! ===== the law's push: the slide, the chain ===== -/
theorem lq_eq {Y : Yd} {T : Nat → Bool} {D D' : Dy} {tr : Nat → Bool} {l : Nat → Int32} {s : Nat → Int64} (h : LQ Y T D tr l s) (e : D = D') : LQ Y T D' tr l s := e ▸ h
theorem slq_loop {Y : Yd} (hY : WFY Y) {T : Nat → Bool} (hT : TOk Y T) {yy gg : Nat → Int32} (hL : LawY Y yy gg) {D0 D : Dy} (hD : WFD Y D) {k d : Nat} (hk : k < db Y) (hd : d < 4) (hF : D.2 = D0.2) (hA : Ahd Y d D0 D (far Y d (D0.1 k))) : ∀ (n c fuel : Nat) (tr : Nat → Bool) (l : Nat → Int32) (s : Nat → Int64), c < dn Y → far Y d c < n → far Y d c ≤ far Y d (D0.1 k) → n ≤ fuel → LQ Y T (setPl D k c) tr l s → ∃ (f' : Nat) (l' : Nat → Int32) (s' : Nat → Int64), fuel ≤ f' + n ∧ LQ Y T (slD Y T D0 D k d n c tr).2.1 (slD Y T D0 D k d n c tr).2.2.1 l' s' ∧ ((slD Y T D0 D k d n c tr).1 = none → FL_push_25 yy gg fuel l s (nI d) 0 (nI k) 1 = FL_push_25 yy gg f' l' s' (nI d) (hoI (slD Y T D0 D k d n c tr).2.2.2) (nI k) 0) ∧ ∀ j, (slD Y T D0 D k d n c tr).1 = some j → FL_push_25 yy gg fuel l s (nI d) 0 (nI k) 1 = if 1 ≤ dk Y k then FL_push_25 yy gg f' l' s' (nI d) 0 (nI j) 1 else FL_push_25 yy gg f' l' s' (nI d) 0 (nI k) 0 := by
  have h36 := dn_le hY
  have h6 := hY.2.1
  intro n
  induction n with
  | zero => intro c fuel tr l s hc hf; omega
  | succ n ih =>
    intro c fuel tr l s hc hf hp hfu hS
    obtain ⟨f, rfl⟩ : ∃ f, fuel = f + 1 := ⟨fuel - 1, by omega⟩
    have hsk : (setPl D k c).1 k = c := if_pos rfl
    have hl : ∀ j, j < db Y → l j = lieI ((setPl D k c).1 j) := fun j hj => by rw [hS.1.1 j (by omega), plM_in hj]
    have un : FL_push_25 yy gg (f + 1) l s (nI d) 0 (nI k) 1 = BL_push_25 yy gg (FL_push_25 yy gg f) l s (nI d) 0 (nI k) 1 := rfl
    rw [un, lp_step hY hL.1 hL.2.1 (by omega) hc hd (by rw [hl k hk, hsk, lie_in (by omega)])]
    cases hb0 : besN Y c d with
    | none =>
      have hn : nxt Y c d = none := by rw [nxt_bes, hb0]; rfl
      rw [sl_wall hn]
      exact ⟨f, l, s, by omega, hS, fun _ => rfl, (fun j h => by cases h)⟩
    | some e =>
      obtain ⟨he, hfe⟩ := bes_spec hc hb0
      have hge := hY.2.2.1 e he
      have hg := hL.2.2.2.2.2 e he
      show ∃ (f' : Nat) (l' : Nat → Int32) (s' : Nat → Int64), _ ∧ _ ∧ (_ → Pr yy gg (FL_push_25 yy gg f) l s (nI d) 0 (nI k) (nI e) = _) ∧ ∀ j, _ → Pr yy gg (FL_push_25 yy gg f) l s (nI d) 0 (nI k) (nI e) = _
      unfold Pr
      rw [rd_in (by omega) (by decide), hg]
      by_cases hwall : dg Y e = 1
      · have hn : nxt Y c d = none := by
          rw [nxt_bes, hb0]
          show (if dg Y e = 1 then none else some e) = none
          rw [if_pos hwall]
        rw [sl_wall hn, hwall, if_pos (show nI 1 = (1 : Int32) from rfl)]
        exact ⟨f, l, s, by omega, hS, fun _ => rfl, (fun j h => by cases h)⟩
      · have hn : nxt Y c d = some e := by
          rw [nxt_bes, hb0]
          show (if dg Y e = 1 then none else some e) = some e
          rw [if_neg hwall]
        have hbc : blkD Y (setPl D k c) e = blkD Y D0 e := by
          refine blkN_cong fun j _ hj => ?_
          show (if j = k then c else D.1 j) = e ↔ D0.1 j = e
          by_cases q : j = k
          · subst q
            rw [if_pos rfl]
            constructor
            · intro z; rw [z] at hfe; omega
            · intro z; rw [z] at hp; omega
          · rw [if_neg q]
            exact hA j (by omega) e he (by omega)
        rw [if_neg (show ¬ nI (dg Y e) = (1 : Int32) from fun q => hwall ((nI_eq (b := 1) (by omega) (by decide)).mp q)), who_eq hY (wfd_set hD (.inl hc)) hS.1.1 he, bn_some, hbc]
        cases hb : blkD Y D0 e with
        | some j =>
          have hj := (blkD_lt hb).1
          have hkk := (hY.2.2.2.2 k hk).1
          rw [sl_str hn hb, if_neg (show ¬ whI (some j) < 0 from nI_pos (by omega)), show (4 : Int32) + nI k = nI (4 + k) by rw [show (4 : Int32) = nI 4 from rfl, nI_add], rd_in (by omega) (by decide), hL.2.2.2.1 k hk]
          refine ⟨f, l, s, by omega, hS, (fun h => by cases h), fun j' h => ?_⟩
          cases h
          unfold FL_push_167
          by_cases q : 1 ≤ dk Y k
          · rw [if_neg (nI_nle q (by omega)), if_neg (show ¬ (1 : Int32) = 0 by decide), who_eq hY (wfd_set hD (.inl hc)) hS.1.1 he, bn_some, hbc, hb, if_pos q]
            rfl
          · rw [if_pos (show nI (dk Y k) ≤ 0 by rw [show dk Y k = 0 by omega]; decide), if_pos rfl, if_neg q]
        | none =>
          have hw5 := what_le hY T D0 he
          have hS1 := lq_1 hS (show e < 64 by omega)
          have hbe : ∀ v, bit64 ((vp_updL s 1 v) 0) e = (decide (e < dn Y) && dg Y e == 3 && D0.2 e) := fun v => by
            rw [uL_ne (by decide), hS.1.2 e]
            show (decide (e < dn Y) && dg Y e == 3 && D.2 e) = _
            rw [hF]
          have h2 : ∀ v, bit64 ((vp_updL s 1 v) 2) e = T e := fun v => by rw [uL_ne (by decide)]; exact hS.2.2 e
          rw [if_pos (show whI none < 0 by decide), rd1 (by decide) (by decide), stB1 (by decide) (by decide), rd_in (by omega) (by decide), hg]
          by_cases w3 : whatD Y T D0 e = 3
          · have ho := (opn_3 (D := D0) hT he).mpr w3
            unfold opnD at ho
            simp only [Bool.and_eq_true, beq_iff_eq, Bool.not_eq_true'] at ho
            have h3 : dg Y e = 3 := ho.1.2
            rw [sl_crk hn hb w3, h3, if_pos (show nI 3 = (3 : Int32) from rfl), rd0 (by decide) (by decide), if_pos ((hs1_0 _ (by omega)).mpr (by rw [hbe, ho.2, Bool.and_false])), p_crk (by omega) (by omega) (by rw [hg, h3]; rfl)]
            have hz := lq_l (lq_c hS1 he (by omega) h3) 36 hk
            have hz2 := lq_eq hz (show setPl (filC (setPl D k c) e) k 36 = filC (setPl D k 36) e from set_set (filC D e) k c 36)
            exact ⟨f, _, _, by omega, hz2, fun _ => rfl, (fun j h => by cases h)⟩
          · have hno : ∀ A : Option (Int32 × (Nat → Int32) × (Nat → Int64)), ∀ v, (if nI (dg Y e) = (3 : Int32) then (rd (0 : Int32) 3 fun j57 => if lg_cmp (((vp_updL s 1 v) j57 >>> ((nI e).toInt64 &&& 63)) &&& 1) 0 = 0 then A else FL_push_226 yy gg (FL_push_25 yy gg f) l (vp_updL s 1 v) (nI d) 0 (nI k) (nI e) 0) else FL_push_226 yy gg (FL_push_25 yy gg f) l (vp_updL s 1 v) (nI d) 0 (nI k) (nI e) 0) = FL_push_226 yy gg (FL_push_25 yy gg f) l (vp_updL s 1 v) (nI d) 0 (nI k) (nI e) 0 := by
              intro A v
              by_cases q : dg Y e = 3
              · rw [q, if_pos (show nI 3 = (3 : Int32) from rfl), rd0 (by decide) (by decide), if_neg (fun z => by
                  have hz := (hs1_0 _ (by omega)).mp z
                  rw [hbe, q, decide_eq_true he] at hz
                  refine w3 ((opn_3 (D := D0) hT he).mp ?_)
                  unfold opnD
                  rw [q, decide_eq_true he]
                  simpa using hz)]
              · rw [if_neg (show ¬ nI (dg Y e) = (3 : Int32) from fun z => q ((nI_eq (b := 3) (by omega) (by decide)).mp z))]
            rw [hno]
            by_cases w4 : 4 ≤ whatD Y T D0 e
            · obtain ⟨g, hgw⟩ : ∃ g, whatD Y T D0 e = 4 + g := ⟨whatD Y T D0 e - 4, by omega⟩
              have hdg : dg Y e = 4 + g := (what_4 (D := D0) hT (4 + g) (by omega)).mp hgw
              rw [sl_home hn hb w4, hgw, show 4 + g - 4 = g by omega, p_hom (g := g) (by omega) (by omega) (by omega) (by rw [hg, hdg])]
              have := lq_0 (lq_l hS1 (37 + g) hk)
              rw [set_set] at this
              exact ⟨f, _, _, by omega, this, fun _ => rfl, (fun j h => by cases h)⟩
            · have hg3 : dg Y e ≤ 3 := by
                by_cases q : 4 ≤ dg Y e
                · exact absurd ((what_4 (D := D0) hT (dg Y e) q).mpr rfl) (fun z => w4 (by omega))
                · omega
              have hkk := (hY.2.2.2.2 k hk).1
              have hS4 := lq_0 (lq_l hS1 e hk)
              rw [set_set, lie_in (by omega)] at hS4
              rw [p_ice (g := dg Y e) (kd := dk Y k) (by omega) (by omega) hg3 hg hkk (hL.2.2.2.1 k hk), h2]
              have hw2 : (dg Y e = 2 ∨ T e = true) ↔ whatD Y T D0 e = 2 := what_2.symm
              by_cases w2 : whatD Y T D0 e = 2 ∧ dk Y k < 2
              · rw [sl_sand hn hb w2, if_pos ⟨hw2.mpr w2.1, w2.2⟩]
                exact ⟨f, _, _, by omega, hS4, fun _ => rfl, (fun j h => by cases h)⟩
              · rw [sl_on hn hb w3 w4 w2, if_neg (fun z => w2 ⟨hw2.mp z.1, z.2⟩)]
                obtain ⟨f', l', s', i1, i2, i3, i4⟩ := ih e f (adT tr e) _ _ he (by omega) (by omega) (by omega) hS4
                exact ⟨f', l', s', by omega, i2, i3, i4⟩
theorem chq_loop {Y : Yd} (hY : WFY Y) {T : Nat → Bool} (hT : TOk Y T) {yy gg : Nat → Int32} (hL : LawY Y yy gg) {D0 : Dy} {d : Nat} (hd : d < 4) : ∀ (n k fuel : Nat) (D : Dy) (tr : Nat → Bool) (l : Nat → Int32) (s : Nat → Int64), k < db Y → D0.1 k < dn Y → D.1 k = D0.1 k → far Y d (D0.1 k) < n → 6 * n < fuel → WFD Y D → D.2 = D0.2 → Ahd Y d D0 D (far Y d (D0.1 k)) → LQ Y T D tr l s → ∃ (f' k' : Nat) (l' : Nat → Int32) (s' : Nat → Int64), FL_push_25 yy gg fuel l s (nI d) 0 (nI k) 1 = FL_push_25 yy gg (f' + 1) l' s' (nI d) (hoI (chD Y T D0 d n k D tr).2.2) (nI k') 0 ∧ LQ Y T (chD Y T D0 d n k D tr).1 (chD Y T D0 d n k D tr).2.1 l' s' := by
  have h6 := hY.2.1
  intro n
  induction n with
  | zero => intro k fuel D tr l s hk hp he hf; omega
  | succ n ih =>
    intro k fuel D tr l s hk hp he hf hfu hD hF hA hS
    have hS0 : LQ Y T (setPl D k (D0.1 k)) tr l s := lq_eq hS (by rw [← he, set_self])
    obtain ⟨f1, l1, s1, q1, q2, q3, q4⟩ := slq_loop hY hT hL hD hk hd hF hA 6 (D0.1 k) fuel tr l s hp (far_lt hY hp) (Nat.le_refl _) (by omega) hS0
    obtain ⟨f2, rfl⟩ : ∃ f2, f1 = f2 + 1 := ⟨f1 - 1, by omega⟩
    obtain ⟨p1, p2, p3, p4, p5, p6⟩ := sl_spec hY T D0 hD k d 6 (D0.1 k) tr hp (far_lt hY hp)
    have hkk := (hY.2.2.2.2 k hk).1
    unfold chD
    cases hr : (slD Y T D0 D k d 6 (D0.1 k) tr).1 with
    | none => exact ⟨f2, k, l1, s1, q3 hr, q2⟩
    | some j =>
      obtain ⟨j1, j2, j3, j4, j5, j6, j7⟩ := p6 j hr
      have q4' := q4 j hr
      by_cases q : 1 ≤ dk Y k
      · rw [if_pos q] at q4'
        simp only [if_pos q]
        have hjk : j ≠ k := fun z => by rw [z] at j6; omega
        have hDj : D.1 j = D0.1 j := (hA j j3 (D0.1 j) j4 (by omega)).mpr rfl
        obtain ⟨f', k', l', s', r1, r2⟩ := ih j (f2 + 1) (slD Y T D0 D k d 6 (D0.1 k) tr).2.1 (slD Y T D0 D k d 6 (D0.1 k) tr).2.2.1 l1 s1 j3 j4 (by rw [p2 j hjk]; exact hDj) (by omega) (by omega) p1 (by rw [j2]; exact hF) (fun i hi e he' hfe => by
          by_cases z : i = k
          · subst z
            constructor
            · intro z; rw [z] at j6; omega
            · intro z; have := congrArg (far Y d) z; omega
          · rw [p2 i z]
            exact hA i hi e he' (by omega)) q2
        exact ⟨f', k', l', s', q4'.trans r1, r2⟩
      · rw [if_neg q] at q4'
        simp only [if_neg q]
        refine ⟨f2, k, l1, s1, ?_, q2⟩
        rw [q4', show (slD Y T D0 D k d 6 (D0.1 k) tr).2.2.2 = none from j1]
        rfl
/-- the law's push -/
theorem push_q {Y : Yd} (hY : WFY Y) {T : Nat → Bool} (hT : TOk Y T) {yy gg : Nat → Int32} (hL : LawY Y yy gg) {D : Dy} (hD : WFD Y D) {l : Nat → Int32} {s : Nat → Int64} (hE : EncM Y D l (s 0)) (h2 : ∀ i, bit64 (s 2) i = T i) {k d : Nat} (hk : k < db Y) (hd : d < 4) : ∃ (l' : Nat → Int32) (s' : Nat → Int64), FL_push yy gg l s (nI k) (nI d) = some (if anyT Y (pushD Y T D k d).2.1 then hoI (pushD Y T D k d).2.2 else -1, l', s') ∧ LQ Y T (pushD Y T D k d).1 (pushD Y T D k d).2.1 l' s' := by
  have h6 := hY.2.1
  have hlt := wfd_lt hY hD hk
  have hS : LQ Y T D (fun _ => false) l (vp_updL s 1 0) := ⟨by rw [uL_ne (by decide)]; exact hE, fun i => by rw [uL_eq]; exact w_0 i, fun i => by rw [uL_ne (by decide)]; exact h2 i⟩
  have hP := pu_ok hY (T := T) hD (d := d) hk
  have fin : ∀ (f' k' : Nat) (r : PR) (l' : Nat → Int32) (s' : Nat → Int64), PuP Y r → LQ Y T r.1 r.2.1 l' s' → FL_push_25 yy gg (f' + 1) l' s' (nI d) (hoI r.2.2) (nI k') 0 = some (if anyT Y r.2.1 then hoI r.2.2 else -1, l', s') := by
    intro f' k' r l' s' hPr hQ
    show BL_push_25 yy gg (FL_push_25 yy gg f') l' s' (nI d) (hoI r.2.2) (nI k') 0 = _
    unfold BL_push_25
    rw [if_pos rfl, rd1 (by decide) (by decide)]
    by_cases q : anyT Y r.2.1 = true
    · rw [if_neg (fun z => by rw [any_0 hPr.2.1 hQ.2.1, q] at z; cases z), if_pos q]
    · rw [if_pos ((any_0 hPr.2.1 hQ.2.1).mpr (by revert q; cases anyT Y r.2.1 <;> simp)), if_neg q]
  unfold FL_push
  rw [stB1 (by decide) (by decide), rd_in (by omega) (by decide), show l k = lieI (D.1 k) by rw [hE.1 k (by omega), plM_in hk]]
  unfold pushD at hP ⊢
  by_cases e : D.1 k < 36
  · have hp : D.1 k < dn Y := by rcases hD k hk with z | z | z | z <;> omega
    rw [if_pos e] at hP ⊢
    rw [if_neg (fun z => by have := (lie_neg hlt).1.mp z; omega)]
    obtain ⟨f', k', l', s', r1, r2⟩ := chq_loop hY hT hL (D0 := D) hd 6 k FU D (fun _ => false) l _ hk hp rfl (far_lt hY hp) (by show 36 < 10000000; omega) hD rfl (fun j hj e he' hfe => Iff.rfl) hS
    exact ⟨l', s', by rw [r1]; exact fin f' k' _ l' s' hP r2, r2⟩
  · rw [if_neg e] at hP ⊢
    rw [if_pos ((lie_neg hlt).1.mpr (by omega))]
    exact ⟨l, vp_updL s 1 0, fin 9999999 k (D, fun _ => false, none) l _ hP hS, hS⟩

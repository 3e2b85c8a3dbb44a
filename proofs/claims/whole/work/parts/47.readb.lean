/-! ===== yard: both readers, over the cells ===== -/
def fl (q : Nat → Bool) (c : Nat) : List Nat := (List.range c).filter q
theorem fl_t {q : Nat → Bool} {c : Nat} (h : q c = true) : fl q (c + 1) = fl q c ++ [c] := by
  unfold fl; rw [List.range_succ, List.filter_append]; simp [h]
theorem fl_f {q : Nat → Bool} {c : Nat} (h : q c = false) : fl q (c + 1) = fl q c := by
  unfold fl; rw [List.range_succ, List.filter_append]; simp [h]
theorem fl_len (q : Nat → Bool) (c : Nat) : (fl q (c + 1)).length = (fl q c).length + if q c = true then 1 else 0 := by
  cases h : q c
  · rw [fl_f h]; rfl
  · rw [fl_t h, List.length_append]; rfl
theorem fl_old {q : Nat → Bool} {c j : Nat} (h : j < (fl q c).length) : (fl q (c + 1)).getD j 0 = (fl q c).getD j 0 := by
  cases hq : q c
  · rw [fl_f hq]
  · rw [fl_t hq, List.getD_eq_getElem?_getD, List.getD_eq_getElem?_getD, List.getElem?_append_left h]
theorem fl_new {q : Nat → Bool} {c : Nat} (h : q c = true) : (fl q (c + 1)).getD (fl q c).length 0 = c := by
  rw [fl_t h, List.getD_eq_getElem?_getD, List.getElem?_append_right (Nat.le_refl _), Nat.sub_self]; rfl
theorem fl_mem {q : Nat → Bool} {c j : Nat} (h : j < (fl q c).length) : (fl q c).getD j 0 < c ∧ q ((fl q c).getD j 0) = true := by
  have hm := List.getElem_mem h
  rw [← getD_at h] at hm
  unfold fl at hm ⊢
  rw [List.mem_filter, List.mem_range] at hm
  exact hm
def sgn (cd : Nat → Int32) (w c : Nat) : Int32 := cd (c + c / w + 4)
def bq (cd : Nat → Int32) (w c : Nat) : Bool := isB (sgn cd w c)
def cq (cd : Nat → Int32) (w c : Nat) : Bool := gN (sgn cd w c) == 3
def nB (cd : Nat → Int32) (w c : Nat) : Nat := (fl (bq cd w) c).length
def nC (cd : Nat → Int32) (w c : Nat) : Nat := (fl (cq cd w) c).length
def bA (cd : Nat → Int32) (w c j : Nat) : Nat := (fl (bq cd w) c).getD j 0
theorem nB_s (cd : Nat → Int32) (w c : Nat) : nB cd w (c + 1) = nB cd w c + if isB (sgn cd w c) = true then 1 else 0 := fl_len _ _
theorem nC_s (cd : Nat → Int32) (w c : Nat) : nC cd w (c + 1) = nC cd w c + if gN (sgn cd w c) = 3 then 1 else 0 := by
  refine (fl_len _ _).trans ?_
  show nC cd w c + (if (gN (sgn cd w c) == 3) = true then 1 else 0) = _
  simp only [beq_iff_eq]
def pP (w c : Nat) : Nat := if c % w = 0 then c + c / w + 3 else c + c / w + 4
def txB (h w c : Nat) : Bool := decide (c + c / w + 4 < 3 + h * (w + 1)) && (!decide (c % w = 0) || decide ((c + c / w + 3 - 3) % (w + 1) = 0)) && decide (¬ (c + c / w + 4 - 3) % (w + 1) = 0) && decide (pP w (c + 1) = c + c / w + 5)
theorem txt_b : ∀ h, h < 7 → ∀ w, w < 7 → 3 ≤ w → ∀ c, c < h * w → txB h w c = true := by decide +kernel
theorem txt_ar (h : Nat) (hh : h < 7) (w : Nat) (hw : w < 7) (hw3 : 3 ≤ w) (c : Nat) (hc : c < h * w) : c + c / w + 4 < 3 + h * (w + 1) ∧ (c % w = 0 → (c + c / w + 3 - 3) % (w + 1) = 0) ∧ ¬ (c + c / w + 4 - 3) % (w + 1) = 0 ∧ pP w (c + 1) = c + c / w + 5 := by
  have hb := txt_b h hh w hw hw3 c hc
  unfold txB at hb
  rw [Bool.and_eq_true, Bool.and_eq_true, Bool.and_eq_true, decide_eq_true_eq, decide_eq_true_eq, decide_eq_true_eq] at hb
  refine ⟨hb.1.1.1, fun e => ?_, hb.1.2, hb.2⟩
  have := hb.1.1.2
  rw [decide_eq_true e] at this
  simpa using this
theorem txt_end : ∀ h, h < 7 → ∀ w, w < 7 → 3 ≤ w → pP w (h * w) = 3 + h * (w + 1) := by decide +kernel
def RSt (cd : Nat → Int32) (h w c : Nat) (τ : Mem) : Prop := τ.1 0 10 = nI (nB cd w c) ∧ τ.1 0 11 = nI (nC cd w c) ∧ τ.1 0 15 = nI h ∧ τ.1 0 16 = nI w ∧ (∀ j, j < c → τ.1 5 j = nI (gN (sgn cd w j))) ∧ ∀ j, j < nB cd w c → τ.1 6 j = nI (kN (sgn cd w (bA cd w c j))) ∧ τ.1 7 j = nI (bA cd w c j)
def FrR (τ τ' : Mem) : Prop := (∀ o, o ≠ 0 → o ≠ 5 → o ≠ 6 → o ≠ 7 → τ'.1 o = τ.1 o) ∧ (∀ q, q ≠ 9 → q ≠ 10 → q ≠ 11 → q ≠ 15 → q ≠ 16 → τ'.1 0 q = τ.1 0 q) ∧ τ'.2 = τ.2
theorem frR_r (τ : Mem) : FrR τ τ := ⟨fun _ _ _ _ _ => rfl, fun _ _ _ _ _ _ => rfl, rfl⟩
theorem frR_t {a b c : Mem} (h1 : FrR a b) (h2 : FrR b c) : FrR a c := ⟨fun o x y z u => (h2.1 o x y z u).trans (h1.1 o x y z u), fun q x y z u v => (h2.2.1 q x y z u v).trans (h1.2.1 q x y z u v), h2.2.2.trans h1.2.2⟩
theorem upd_ne {f : Nat → Int32} {k j : Nat} {v : Int32} (h : j ≠ k) : upd f k v j = f j := by simp [upd, h]
theorem upd_eq {f : Nat → Int32} {k : Nat} {v : Int32} : upd f k v k = v := by simp [upd]
theorem sI_ne {σ : Mem} {o k q : Nat} {v : Int32} (h : q ≠ k) : (setI σ o k v).1 o q = σ.1 o q := by rw [setI_s1, upd_ne h]
theorem sI_eq {σ : Mem} {o k : Nat} {v : Int32} : (setI σ o k v).1 o k = v := by rw [setI_s1, upd_eq]
theorem frR_0 (τ : Mem) {k : Nat} (v : Int32) (h : k = 9 ∨ k = 10 ∨ k = 11 ∨ k = 15 ∨ k = 16) : FrR τ (setI τ 0 k v) := ⟨fun o h0 _ _ _ => setI_ne1 h0, fun q a b c d e => sI_ne (by omega), rfl⟩
theorem frR_o (τ : Mem) {o : Nat} (k : Nat) (v : Int32) (h : o = 5 ∨ o = 6 ∨ o = 7) : FrR τ (setI τ o k v) := ⟨fun o' h0 h5 h6 h7 => setI_ne1 (by omega), fun q a b c d e => by rw [setI_ne1 (by omega)], rfl⟩
theorem frR_rd0 (τ : Mem) (c k p g : Nat) : FrR τ (rdA τ c k p g) := frR_t (frR_t (frR_o τ c _ (by omega)) (frR_0 _ _ (by omega))) (frR_0 _ _ (by omega))
theorem frR_rd1 (τ : Mem) (c k b p g kn : Nat) : FrR τ (rdB τ c k b p g kn) := frR_t (frR_t (frR_t (frR_t (frR_t (frR_o τ c _ (by omega)) (frR_0 _ _ (by omega))) (frR_o _ _ _ (by omega))) (frR_o _ _ _ (by omega))) (frR_0 _ _ (by omega))) (frR_0 _ _ (by omega))
theorem rdA_9 (τ : Mem) (c k p g : Nat) : (rdA τ c k p g).1 0 9 = nI (p + 1) := sI_eq
theorem rdB_9 (τ : Mem) (c k b p g kn : Nat) : (rdB τ c k b p g kn).1 0 9 = nI (p + 1) := sI_eq
theorem rst_0 {cd : Nat → Int32} {h w c : Nat} {τ : Mem} (H : RSt cd h w c τ) (hB : isB (sgn cd w c) = false) (p : Nat) : RSt cd h w (c + 1) (rdA τ c (nC cd w c) p (gN (sgn cd w c))) := by
  obtain ⟨a1, a2, a3, a4, a5, a6⟩ := H
  have eB : nB cd w (c + 1) = nB cd w c := by rw [nB_s, hB]; rfl
  have o5 : (rdA τ c (nC cd w c) p (gN (sgn cd w c))).1 5 = upd (τ.1 5) c (nI (gN (sgn cd w c))) := by
    unfold rdA; rw [setI_ne1 (by decide), setI_ne1 (by decide), setI_s1]
  have o6 : (rdA τ c (nC cd w c) p (gN (sgn cd w c))).1 6 = τ.1 6 := by
    unfold rdA; rw [setI_ne1 (by decide), setI_ne1 (by decide), setI_ne1 (by decide)]
  have o7 : (rdA τ c (nC cd w c) p (gN (sgn cd w c))).1 7 = τ.1 7 := by
    unfold rdA; rw [setI_ne1 (by decide), setI_ne1 (by decide), setI_ne1 (by decide)]
  have s0 : ∀ q, q ≠ 9 → q ≠ 11 → (rdA τ c (nC cd w c) p (gN (sgn cd w c))).1 0 q = τ.1 0 q := fun q h1 h2 => by
    unfold rdA; rw [sI_ne h1, sI_ne h2, setI_ne1 (by decide)]
  refine ⟨?_, ?_, ?_, ?_, fun j hj => ?_, fun j hj => ?_⟩
  · rw [s0 10 (by decide) (by decide), a1, eB]
  · rw [nC_s]
    unfold rdA
    rw [sI_ne (by decide), sI_eq]
  · rw [s0 15 (by decide) (by decide), a3]
  · rw [s0 16 (by decide) (by decide), a4]
  · rw [o5]
    by_cases e : j = c
    · rw [e, upd_eq]
    · rw [upd_ne e, a5 j (by omega)]
  · rw [eB] at hj
    have eo : bA cd w (c + 1) j = bA cd w c j := fl_old hj
    rw [o6, o7, eo]
    exact a6 j hj
theorem rst_1 {cd : Nat → Int32} {h w c : Nat} {τ : Mem} (H : RSt cd h w c τ) (hB : isB (sgn cd w c) = true) (p : Nat) : RSt cd h w (c + 1) (rdB τ c (nC cd w c) (nB cd w c) p (gN (sgn cd w c)) (kN (sgn cd w c))) := by
  obtain ⟨a1, a2, a3, a4, a5, a6⟩ := H
  have eB : nB cd w (c + 1) = nB cd w c + 1 := by rw [nB_s, if_pos hB]
  generalize hτ : rdB τ c (nC cd w c) (nB cd w c) p (gN (sgn cd w c)) (kN (sgn cd w c)) = τ'
  have o5 : τ'.1 5 = upd (τ.1 5) c (nI (gN (sgn cd w c))) := by
    rw [← hτ]; unfold rdB; rw [setI_ne1 (by decide), setI_ne1 (by decide), setI_ne1 (by decide), setI_ne1 (by decide), setI_ne1 (by decide), setI_s1]
  have o6 : τ'.1 6 = upd (τ.1 6) (nB cd w c) (nI (kN (sgn cd w c))) := by
    rw [← hτ]; unfold rdB; rw [setI_ne1 (by decide), setI_ne1 (by decide), setI_ne1 (by decide), setI_s1, setI_ne1 (by decide), setI_ne1 (by decide)]
  have o7 : τ'.1 7 = upd (τ.1 7) (nB cd w c) (nI c) := by
    rw [← hτ]; unfold rdB; rw [setI_ne1 (by decide), setI_ne1 (by decide), setI_s1, setI_ne1 (by decide), setI_ne1 (by decide), setI_ne1 (by decide)]
  have s0 : ∀ q, q ≠ 9 → q ≠ 10 → q ≠ 11 → τ'.1 0 q = τ.1 0 q := fun q h1 h2 h3 => by
    rw [← hτ]; unfold rdB; rw [sI_ne h1, sI_ne h2, setI_ne1 (by decide), setI_ne1 (by decide), sI_ne h3, setI_ne1 (by decide)]
  refine ⟨?_, ?_, ?_, ?_, fun j hj => ?_, fun j hj => ?_⟩
  · rw [← hτ, eB]; unfold rdB; rw [sI_ne (by decide), sI_eq]
  · rw [← hτ, nC_s]; unfold rdB; rw [sI_ne (by decide), sI_ne (by decide), setI_ne1 (by decide), setI_ne1 (by decide), sI_eq]
  · rw [s0 15 (by decide) (by decide) (by decide), a3]
  · rw [s0 16 (by decide) (by decide) (by decide), a4]
  · rw [o5]
    by_cases e : j = c
    · rw [e, upd_eq]
    · rw [upd_ne e, a5 j (by omega)]
  · rw [eB] at hj
    rw [o6, o7]
    by_cases e : j = nB cd w c
    · have en : bA cd w (c + 1) j = c := by rw [e]; exact fl_new hB
      rw [en, e, upd_eq, upd_eq]; exact ⟨rfl, rfl⟩
    · have hj2 : j < nB cd w c := by omega
      have eo : bA cd w (c + 1) j = bA cd w c j := fl_old hj2
      rw [upd_ne e, upd_ne e, eo]
      exact a6 j hj2
/-- what both readers come to, from cell c on -/
def Both (cd : Nat → Int32) (n h w : Nat) (σ : Mem) (x : Option (Int32 × Mem)) (τ : Mem) (m : Option (Int32 × Mem)) : Prop :=
  (∃ q τ', q ≤ n ∧ x = some (nI q, σ) ∧ m = some (0, τ') ∧ τ'.1 0 9 = nI q ∧ FrR τ τ') ∨
  ∃ τ', x = some (-1, σ) ∧ m = some (1, τ') ∧ FrR τ τ' ∧ RSt cd h w (h * w) τ' ∧ n = 3 + h * (w + 1) ∧ nB cd w (h * w) ≤ 6 ∧ nC cd w (h * w) ≤ 4
theorem both_t {cd : Nat → Int32} {n h w : Nat} {σ : Mem} {x m : Option (Int32 × Mem)} {τ τ1 : Mem} (hF : FrR τ τ1) (H : Both cd n h w σ x τ1 m) : Both cd n h w σ x τ m := by
  rcases H with ⟨q, τ', a1, a2, a3, a4, a5⟩ | ⟨τ', a1, a2, a3, a4⟩
  · exact Or.inl ⟨q, τ', a1, a2, a3, a4, frR_t hF a5⟩
  · exact Or.inr ⟨τ', a1, a2, frR_t hF a3, a4⟩
theorem rd_loop {o : Nat} {σ : Mem} {i n h w a : Nat} {cd : Nat → Int32} (hR : RdX o σ i n cd) (hn : n ≤ 60) (ha : a + n ≤ 240) (hh : h < 7) (hw : w < 7) (hw3 : 3 ≤ w) : ∀ (m c f1 f2 : Nat) (τ : Mem), c + m = h * w → 2 * m < f1 → m < f2 → (∀ p, p < n → τ.1 30 (a + p) = cd p) → RSt cd h w c τ → τ.1 0 9 = nI (pP w c) → nB cd w c ≤ 6 → nC cd w c ≤ 4 → pP w c ≤ n → Both cd n h w σ (ff o σ i n h w f1 (nC cd w c) (nB cd w c) (pP w c)) τ (FX9_readsYard_81 f2 τ (nI a) (nI n) (nI c)) := by
  have hw36 : h * w ≤ 6 * 6 := Nat.mul_le_mul (by omega) (by omega)
  have hT60 : h * (w + 1) ≤ 6 * 7 := Nat.mul_le_mul (by omega) (by omega)
  have hend := txt_end h hh w hw hw3
  intro m
  induction m with
  | zero =>
    intro c f1 f2 τ hc h1 h2 hcd hS h9 hb6 hc4 hpn
    obtain ⟨g1, rfl⟩ : ∃ f, f1 = f + 1 := ⟨f1 - 1, by omega⟩
    obtain ⟨g2, rfl⟩ : ∃ f, f2 = f + 1 := ⟨f2 - 1, by omega⟩
    have ec : c = h * w := by omega
    subst ec
    have hm : FX9_readsYard_81 (g2 + 1) τ (nI a) (nI n) (nI (h * w)) = if pP w (h * w) = n then some (1, τ) else some (0, τ) := by
      show BX9_readsYard_81 (FX9_readsYard_81 g2) τ (nI a) (nI n) (nI (h * w)) = _
      unfold BX9_readsYard_81
      rw [hS.2.2.1, hS.2.2.2.1, pk_mul, if_pos (nI_le (Nat.le_refl _) (by omega)), h9]
      by_cases e : pP w (h * w) = n
      · rw [if_pos e, e, if_pos rfl]; rfl
      · rw [if_neg e, if_neg (n12 e (by omega) (by omega))]; rfl
    rw [hm]
    rw [hend] at hpn ⊢
    by_cases e : 3 + h * (w + 1) = n
    · rw [if_pos e]
      refine Or.inr ⟨τ, ?_, rfl, frR_r τ, hS, e.symm, hb6, hc4⟩
      have := ff_end (o := o) (σ := σ) (i := i) (n := n) (h := h) (w := w) hn (by omega) (by omega) g1 (nC cd w (h * w)) (nB cd w (h * w))
      rw [if_pos e.symm] at this
      rw [e]; exact this
    · rw [if_neg e]
      exact Or.inl ⟨_, τ, hpn, ff_past hR hn (by omega) (by omega) g1 _ _ (by omega) (by omega) (by omega), rfl, by rw [h9, hend], frR_r τ⟩
  | succ m ih =>
    intro c f1 f2 τ hc h1 h2 hcd hS h9 hb6 hc4 hpn
    obtain ⟨g2, rfl⟩ : ∃ f, f2 = f + 1 := ⟨f2 - 1, by omega⟩
    obtain ⟨t1, t2, t3, t4⟩ := txt_ar h hh w hw hw3 c (by omega)
    have sig : ∀ (g1 : Nat) (τ1 : Mem), 2 * m + 1 < g1 → (∀ p, p < n → τ1.1 30 (a + p) = cd p) → RSt cd h w c τ1 → τ1.1 0 9 = nI (c + c / w + 4) → c + c / w + 4 ≤ n → Both cd n h w σ (ff o σ i n h w g1 (nC cd w c) (nB cd w c) (c + c / w + 4)) τ1 (FX9_readsYard_126 (FX9_readsYard_81 g2) τ1 (nI a) (nI n) (nI c)) := by
      intro g1 τ1 hg hcd1 hS1 h91 hp1
      obtain ⟨g1, rfl⟩ : ∃ f, g1 = f + 1 := ⟨g1 - 1, by omega⟩
      unfold FX9_readsYard_126
      rw [rsg_eq hcd1 ha hp1 h91 hS1.1 hS1.2.1 (by omega) hc4 hb6]
      by_cases hlt : c + c / w + 4 < n
      · rw [ff_sig hR hn (by omega) (by omega) g1 hc4 hb6 hlt (Nat.le_trans (by decide) (Nat.le_add_left 4 _)) t1 t3]
        by_cases hok : okS (cd (c + c / w + 4)) = true ∧ ¬ (gN (cd (c + c / w + 4)) = 3 ∧ nC cd w c = 4) ∧ ¬ (isB (cd (c + c / w + 4)) = true ∧ nB cd w c = 6)
        · have hok2 : c + c / w + 4 < n ∧ okS (cd (c + c / w + 4)) = true ∧ ¬ (gN (cd (c + c / w + 4)) = 3 ∧ nC cd w c = 4) ∧ ¬ (isB (cd (c + c / w + 4)) = true ∧ nB cd w c = 6) := ⟨hlt, hok⟩
          rw [if_pos hok, if_pos hok2, bi_some, if_neg (show ¬ (1 : Int32) = 0 by decide), nm_eq, nI_1]
          have eB := nB_s cd w c
          have eC := nC_s cd w c
          change nB cd w (c + 1) = nB cd w c + if isB (cd (c + c / w + 4)) = true then 1 else 0 at eB
          change nC cd w (c + 1) = nC cd w c + if gN (cd (c + c / w + 4)) = 3 then 1 else 0 at eC
          have hB6 : nB cd w (c + 1) ≤ 6 := by
            rw [eB]
            by_cases q : isB (cd (c + c / w + 4)) = true
            · rw [if_pos q]; have := hok.2.2; have : nB cd w c ≠ 6 := fun z => this ⟨q, z⟩; omega
            · rw [if_neg q]; omega
          have hC4 : nC cd w (c + 1) ≤ 4 := by
            rw [eC]
            by_cases q : gN (cd (c + c / w + 4)) = 3
            · rw [if_pos q]; have := hok.2.1; have : nC cd w c ≠ 4 := fun z => this ⟨q, z⟩; omega
            · rw [if_neg q]; omega
          rw [← eB, ← eC]
          have e5 : c + c / w + 4 + 1 = pP w (c + 1) := by rw [t4]
          rw [e5]
          cases hB : isB (cd (c + c / w + 4))
          · rw [if_neg (show ¬ false = true by decide)]
            refine both_t (frR_rd0 _ _ _ _ _) (ih (c + 1) g1 g2 _ (by omega) (by omega) (by omega) (fun p hp => ?_) (rst_0 hS1 hB _) (by rw [rdA_9, e5]) hB6 hC4 (by omega))
            rw [(frR_rd0 _ _ _ _ _).1 30 (by decide) (by decide) (by decide) (by decide)]
            exact hcd1 p hp
          · rw [if_pos rfl]
            refine both_t (frR_rd1 _ _ _ _ _ _ _) (ih (c + 1) g1 g2 _ (by omega) (by omega) (by omega) (fun p hp => ?_) (rst_1 hS1 hB _) (by rw [rdB_9, e5]) hB6 hC4 (by omega))
            rw [(frR_rd1 _ _ _ _ _ _ _).1 30 (by decide) (by decide) (by decide) (by decide)]
            exact hcd1 p hp
        · have hok2 : ¬ (c + c / w + 4 < n ∧ okS (cd (c + c / w + 4)) = true ∧ ¬ (gN (cd (c + c / w + 4)) = 3 ∧ nC cd w c = 4) ∧ ¬ (isB (cd (c + c / w + 4)) = true ∧ nB cd w c = 6)) := fun q => hok q.2
          rw [if_neg hok, if_neg hok2, bi_some, if_pos rfl]
          exact Or.inl ⟨_, τ1, hp1, rfl, rfl, h91, frR_r τ1⟩
      · have en : c + c / w + 4 = n := by omega
        rw [if_neg (fun q => hlt q.1), bi_some, if_pos rfl, en, ff_end hn (by omega) (by omega), if_neg (by omega)]
        exact Or.inl ⟨n, τ1, Nat.le_refl n, rfl, rfl, by rw [h91, en], frR_r τ1⟩
    have hcw : nI c - nI c / nI w * nI w = nI (c % w) := pk_md (by omega) (by omega) (by omega)
    show Both cd n h w σ _ τ (BX9_readsYard_81 (FX9_readsYard_81 g2) τ (nI a) (nI n) (nI c))
    unfold BX9_readsYard_81 dzI
    rw [hS.2.2.1, hS.2.2.2.1, pk_mul, if_neg (nI_ge (by omega) (by omega)), if_neg (nI_ne0 (by omega) (by omega)), hcw]
    have hmw : c % w < w := Nat.mod_lt _ (by omega)
    by_cases e0 : c % w = 0
    · have ep : pP w c = c + c / w + 3 := by unfold pP; rw [if_pos e0]
      rw [ep] at h9 hpn ⊢
      obtain ⟨g1, rfl⟩ : ∃ f, f1 = f + 1 := ⟨f1 - 1, by omega⟩
      rw [if_pos (show nI (c % w) = 0 by rw [e0]; rfl), coa_eq hcd ha hpn h9, bi_some]
      by_cases hlt : c + c / w + 3 < n
      · rw [if_pos hlt, ff_sep hR hn (by omega) (by omega) g1 hc4 hb6 hlt (Nat.le_add_left 3 _) (by omega) (t2 e0)]
        by_cases e59 : cd (c + c / w + 3) = 59
        · rw [if_pos e59, if_pos e59, nm_eq, h9, nI_1]
          refine both_t (frR_0 τ (k := 9) _ (by omega)) (sig g1 _ (by omega) (fun p hp => ?_) ⟨?_, ?_, ?_, ?_, ?_, ?_⟩ sI_eq (by omega))
          · rw [setI_ne1 (by decide)]; exact hcd p hp
          · rw [sI_ne (by decide)]; exact hS.1
          · rw [sI_ne (by decide)]; exact hS.2.1
          · rw [sI_ne (by decide)]; exact hS.2.2.1
          · rw [sI_ne (by decide)]; exact hS.2.2.2.1
          · rw [setI_ne1 (by decide)]; exact hS.2.2.2.2.1
          · rw [setI_ne1 (by decide), setI_ne1 (by decide)]; exact hS.2.2.2.2.2
        · rw [if_neg e59, if_neg e59]
          exact Or.inl ⟨_, τ, hpn, rfl, rfl, h9, frR_r τ⟩
      · have en : c + c / w + 3 = n := by omega
        rw [if_neg hlt, if_neg (show ¬ (-9 : Int32) = 59 by decide), en, ff_end hn (by omega) (by omega), if_neg (by omega)]
        exact Or.inl ⟨n, τ, Nat.le_refl n, rfl, rfl, by rw [h9, en], frR_r τ⟩
    · have ep : pP w c = c + c / w + 4 := by unfold pP; rw [if_neg e0]
      rw [ep] at h9 hpn ⊢
      rw [if_neg (nI_ne0 (by omega) (by omega))]
      exact sig f1 τ (by omega) hcd hS h9 hpn

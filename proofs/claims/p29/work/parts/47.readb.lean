/-! ===== yard: both readers, over the cells ===== -/
def fl (q : Nat → Bool) (c : Nat) : List Nat := (List.range c).filter q
theorem fl_t {q : Nat → Bool} {c : Nat} (h : q c = true) : fl q (c + 1) = fl q c ++ [c] := by
  unfold fl; rw [List.range_succ, List.filter_append]; simp [h]
theorem fl_f {q : Nat → Bool} {c : Nat} (h : q c = false) : fl q (c + 1) = fl q c := by
  unfold fl; rw [List.range_succ, List.filter_append]; simp [h]
theorem fl_len (q : Nat → Bool) (c : Nat) : (fl q (c + 1)).length = (fl q c).length + if q c = true then 1 else 0 := by
  cases h : q c
  · rw [fl_f h]; rfl
  · rw [fl_t h, List.length_append]; rfl
theorem fl_old {q : Nat → Bool} {c j : Nat} (h : j < (fl q c).length) : (fl q (c + 1)).getD j 0 = (fl q c).getD j 0 := by
  cases hq : q c
  · rw [fl_f hq]
  · rw [fl_t hq, List.getD_eq_getElem?_getD, List.getD_eq_getElem?_getD, List.getElem?_append_left h]
theorem fl_new {q : Nat → Bool} {c : Nat} (h : q c = true) : (fl q (c + 1)).getD (fl q c).length 0 = c := by
  rw [fl_t h, List.getD_eq_getElem?_getD, List.getElem?_append_right (Nat.le_refl _), Nat.sub_self]; rfl
theorem fl_mem {q : Nat → Bool} {c j : Nat} (h : j < (fl q c).length) : (fl q c).getD j 0 < c ∧ q ((fl q c).getD j 0) = true := by
  have hm := List.getElem_mem h
  rw [← getD_at h] at hm
  unfold fl at hm ⊢
  rw [List.mem_filter, List.mem_range] at hm
  exact hm
def sgn (cd : Nat → Int32) (w c : Nat) : Int32 := cd (c + c / w + 4)
def bq (cd : Nat → Int32) (w c : Nat) : Bool := isB (sgn cd w c)
def cq (cd : Nat → Int32) (w c : Nat) : Bool := gN (sgn cd w c) == 3
def nB (cd : Nat → Int32) (w c : Nat) : Nat := (fl (bq cd w) c).length
def nC (cd : Nat → Int32) (w c : Nat) : Nat := (fl (cq cd w) c).length
def bA (cd : Nat → Int32) (w c j : Nat) : Nat := (fl (bq cd w) c).getD j 0
theorem nB_s (cd : Nat → Int32) (w c : Nat) : nB cd w (c + 1) = nB cd w c + if isB (sgn cd w c) = true then 1 else 0 := fl_len _ _
theorem nC_s (cd : Nat → Int32) (w c : Nat) : nC cd w (c + 1) = nC cd w c + if gN (sgn cd w c) = 3 then 1 else 0 := by
  refine (fl_len _ _).trans ?_
  show nC cd w c + (if (gN (sgn cd w c) == 3) = true then 1 else 0) = _
  simp only [beq_iff_eq]
def pP (w c : Nat) : Nat := if c % w = 0 then c + c / w + 3 else c + c / w + 4
def txB (h w c : Nat) : Bool := decide (c + c / w + 4 < 3 + h * (w + 1)) && (!decide (c % w = 0) || decide ((c + c / w + 3 - 3) % (w + 1) = 0)) && decide (¬ (c + c / w + 4 - 3) % (w + 1) = 0) && decide (pP w (c + 1) = c + c / w + 5)
theorem txt_b : ∀ h, h < 7 → ∀ w, w < 7 → 3 ≤ w → ∀ c, c < h * w → txB h w c = true := by decide +kernel
theorem txt_ar (h : Nat) (hh : h < 7) (w : Nat) (hw : w < 7) (hw3 : 3 ≤ w) (c : Nat) (hc : c < h * w) : c + c / w + 4 < 3 + h * (w + 1) ∧ (c % w = 0 → (c + c / w + 3 - 3) % (w + 1) = 0) ∧ ¬ (c + c / w + 4 - 3) % (w + 1) = 0 ∧ pP w (c + 1) = c + c / w + 5 := by
  have hb := txt_b h hh w hw hw3 c hc
  unfold txB at hb
  rw [Bool.and_eq_true, Bool.and_eq_true, Bool.and_eq_true, decide_eq_true_eq, decide_eq_true_eq, decide_eq_true_eq] at hb
  refine ⟨hb.1.1.1, fun e => ?_, hb.1.2, hb.2⟩
  have := hb.1.1.2
  rw [decide_eq_true e] at this
  simpa using this
theorem txt_end : ∀ h, h < 7 → ∀ w, w < 7 → 3 ≤ w → pP w (h * w) = 3 + h * (w + 1) := by decide +kernel
def RSt (cd : Nat → Int32) (h w c : Nat) (τ : Mem) : Prop := τ.1 0 10 = nI (nB cd w c) ∧ τ.1 0 11 = nI (nC cd w c) ∧ τ.1 0 15 = nI h ∧ τ.1 0 16 = nI w ∧ (∀ j, j < c → τ.1 5 j = nI (gN (sgn cd w j))) ∧ ∀ j, j < nB cd w c → τ.1 6 j = nI (kN (sgn cd w (bA cd w c j))) ∧ τ.1 7 j = nI (bA cd w c j)
def FrR (τ τ' : Mem) : Prop := (∀ o, o ≠ 0 → o ≠ 5 → o ≠ 6 → o ≠ 7 → τ'.1 o = τ.1 o) ∧ (∀ q, q ≠ 9 → q ≠ 10 → q ≠ 11 → q ≠ 15 → q ≠ 16 → τ'.1 0 q = τ.1 0 q) ∧ τ'.2 = τ.2
theorem frR_r (τ : Mem) : FrR τ τ := ⟨fun _ _ _ _ _ => rfl, fun _ _ _ _ _ _ => rfl, rfl⟩
theorem frR_t {a b c : Mem} (h1 : FrR a b) (h2 : FrR b c) : FrR a c := ⟨fun o x y z u => (h2.1 o x y z u).trans (h1.1 o x y z u), fun q x y z u v => (h2.2.1 q x y z u v).trans (h1.2.1 q x y z u v), h2.2.2.trans h1.2.2⟩
theorem upd_ne {f : Nat → Int32} {k j : Nat} {v : Int32} (h : j ≠ k) : upd f k v j = f j := by simp [upd, h]
theorem upd_eq {f : Nat → Int32} {k : Nat} {v : Int32} : upd f k v k = v := by simp [upd]
theorem sI_ne {σ : Mem} {o k q : Nat} {v : Int32} (h : q ≠ k) : (setI σ o k v).1 o q = σ.1 o q := by rw [setI_s1, upd_ne h]
theorem sI_eq {σ : Mem} {o k : Nat} {v : Int32} : (setI σ o k v).1 o k = v := by rw [setI_s1, upd_eq]
theorem frR_0 (τ : Mem) {k : Nat} (v : Int32) (h : k = 9 ∨ k = 10 ∨ k = 11 ∨ k = 15 ∨ k = 16) : FrR τ (setI τ 0 k v) := ⟨fun o h0 _ _ _ => setI_ne1 h0, fun q a b c d e => sI_ne (by omega), rfl⟩
theorem frR_o (τ : Mem) {o : Nat} (k : Nat) (v : Int32) (h : o = 5 ∨ o = 6 ∨ o = 7) : FrR τ (setI τ o k v) := ⟨fun o' h0 h5 h6 h7 => setI_ne1 (by omega), fun q a b c d e => by rw [setI_ne1 (by omega)], rfl⟩
theorem frR_rd0 (τ : Mem) (c k p g : Nat) : FrR τ (rdA τ c k p g) := frR_t (frR_t (frR_o τ c _ (by omega)) (frR_0 _ _ (by omega))) (frR_0 _ _ (by omega))
theorem frR_rd1 (τ : Mem) (c k b p g kn : Nat) : FrR τ (rdB τ c k b p g kn) := frR_t (frR_t (frR_t (frR_t (frR_t (frR_o τ c _ (by omega)) (frR_0 _ _ (by omega))) (frR_o _ _ _ (by omega))) (frR_o _ _ _ (by omega))) (frR_0 _ _ (by omega))) (frR_0 _ _ (by omega))
theorem rdA_9 (τ : Mem) (c k p g : Nat) : (rdA τ c k p g).1 0 9 = nI (p + 1) := sI_eq
theorem rdB_9 (τ : Mem) (c k b p g kn : Nat) : (rdB τ c k b p g kn).1 0 9 = nI (p + 1) := sI_eq
theorem rst_0 {cd : Nat → Int32} {h w c : Nat} {τ : Mem} (H : RSt cd h w c τ) (hB : isB (sgn cd w c) = false) (p : Nat) : RSt cd h w (c + 1) (rdA τ c (nC cd w c) p (gN (sgn cd w c))) := by
  obtain ⟨a1, a2, a3, a4, a5, a6⟩ := H
  have eB : nB cd w (c + 1) = nB cd w c := by rw [nB_s, hB]; rfl
  have o5 : (rdA τ c (nC cd w c) p (gN (sgn cd w c))).1 5 = upd (τ.1 5) c (nI (gN (sgn cd w c))) := by
    unfold rdA; rw [setI_ne1 (by decide), setI_ne1 (by decide), setI_s1]
  have o6 : (rdA τ c (nC cd w c) p (gN (sgn cd w c))).1 6 = τ.1 6 := by
    unfold rdA; rw [setI_ne1 (by decide), setI_ne1 (by decide), setI_ne1 (by decide)]
  have o7 : (rdA τ c (nC cd w c) p (gN (sgn cd w c))).1 7 = τ.1 7 := by
    unfold rdA; rw [setI_ne1 (by decide), setI_ne1 (by decide), setI_ne1 (by decide)]
  have s0 : ∀ q, q ≠ 9 → q ≠ 11 → (rdA τ c (nC cd w c) p (gN (sgn cd w c))).1 0 q = τ.1 0 q := fun q h1 h2 => by
    unfold rdA; rw [sI_ne h1, sI_ne h2, setI_ne1 (by decide)]
  refine ⟨?_, ?_, ?_, ?_, fun j hj => ?_, fun j hj => ?_⟩
  · rw [s0 10 (by decide) (by decide), a1, eB]
  · rw [nC_s]
    unfold rdA
    rw [sI_ne (by decide), sI_eq]
  · rw [s0 15 (by decide) (by decide), a3]
  · rw [s0 16 (by decide) (by decide), a4]
  · rw [o5]
    by_cases e : j = c
    · rw [e, upd_eq]
    · rw [upd_ne e, a5 j (by omega)]
  · rw [eB] at hj
    have eo : bA cd w (c + 1) j = bA cd w c j := fl_old hj
    rw [o6, o7, eo]
    exact a6 j hj
theorem rst_1 {cd : Nat → Int32} {h w c : Nat} {τ : Mem} (H : RSt cd h w c τ) (hB : isB (sgn cd w c) = true) (p : Nat) : RSt cd h w (c + 1) (rdB τ c (nC cd w c) (nB cd w c) p (gN (sgn cd w c)) (kN (sgn cd w c))) := by
  obtain ⟨a1, a2, a3, a4, a5, a6⟩ := H
  have eB : nB cd w (c + 1) = nB cd w c + 1 := by rw [nB_s, if_pos hB]
  generalize hτ : rdB τ c (nC cd w c) (nB cd w c) p (gN (sgn cd w c)) (kN (sgn cd w c)) = τ'
  have o5 : τ'.1 5 = upd (τ.1 5) c (nI (gN (sgn cd w c))) := by
    rw [← hτ]; unfold rdB; rw [setI_ne1 (by decide), setI_ne1 (by decide), setI_ne1 (by decide), setI_ne1 (by decide), setI_ne1 (by decide), setI_s1]
  have o6 : τ'.1 6 = upd (τ.1 6) (nB cd w c) (nI (kN (sgn cd w c))) := by
    rw [← hτ]; unfold rdB; rw [setI_ne1 (by decide), setI_ne1 (by decide), setI_ne1 (by decide), setI_s1, setI_ne1 (by decide), setI_ne1 (by decide)]
  have o7 : τ'.1 7 = upd (τ.1 7) (nB cd w c) (nI c) := by
    rw [← hτ]; unfold rdB; rw [setI_ne1 (by decide), setI_ne1 (by decide), setI_s1, setI_ne1 (by decide), setI_ne1 (by decide), setI_ne1 (by decide)]
  have s0 : ∀ q, q ≠ 9 → q ≠ 10 → q ≠ 11 → τ'.1 0 q = τ.1 0 q := fun q h1 h2 h3 => by
    rw [← hτ]; unfold rdB; rw [sI_ne h1, sI_ne h2, setI_ne1 (by decide), setI_ne1 (by decide), sI_ne h3, setI_ne1 (by decide)]
  refine ⟨?_, ?_, ?_, ?_, fun j hj => ?_, fun j hj => ?_⟩
  · rw [← hτ, eB]; unfold rdB; rw [sI_ne (by decide), sI_eq]
  · rw [← hτ, nC_s]; unfold rdB; rw [sI_ne (by decide), sI_ne (by decide), setI_ne1 (by decide), setI_ne1 (by decide), sI_eq]
  · rw [s0 15 (by decide) (by decide) (by decide), a3]
  · rw [s0 16 (by decide) (by decide) (by decide), a4]
  · rw [o5]
    by_cases e : j = c
    · rw [e, upd_eq]
    · rw [upd_ne e, a5 j (by omega)]
  · rw [eB] at hj
    rw [o6, o7]
    by_cases e : j = nB cd w c
    · have en : bA cd w (c + 1) j = c := by rw [e]; exact fl_new hB
      rw [en, e, upd_eq, upd_eq]; exact ⟨rfl, rfl⟩
    · have hj2 : j < nB cd w c := by omega
      have eo : bA cd w (c + 1) j = bA cd w c j := fl_old hj2
      rw [upd_ne e, upd_ne e, eo]
      exact a6 j hj2
/-- what both readers come to, from cell c on -/
def Both (cd : Nat → Int32) (n h w : Nat) (σ : Mem) (x : Option (Int32 × Mem)) (τ : Mem) (m : Option (Int32 × Mem)) : Prop :=
  (∃ q τ', q ≤ n ∧ x = some (nI q, σ) ∧ m = some (0, τ') ∧ τ'.1 0 9 = nI q ∧ FrR τ τ') ∨
  ∃ τ', x = some (-1, σ) ∧ m = some (1, τ') ∧ FrR τ τ' ∧ RSt cd h w (h * w) τ' ∧ n = 3 + h * (w + 1) ∧ nB cd w (h * w) ≤ 6 ∧ nC cd w (h * w) ≤ 4
theorem both_t {cd : Nat → Int32} {n h w : Nat} {σ : Mem} {x m : Option (Int32 × Mem)} {τ τ1 : Mem} (hF : FrR τ τ1) (H : Both cd n h w σ x τ1 m) : Both cd n h w σ x τ m := by
  rcases H with ⟨q, τ', a1, a2, a3, a4, a5⟩ | ⟨τ', a1, a2, a3, a4⟩
  · exact Or.inl ⟨q, τ', a1, a2, a3, a4, frR_t hF a5⟩
  · exact Or.inr ⟨τ', a1, a2, frR_t hF a3, a4⟩

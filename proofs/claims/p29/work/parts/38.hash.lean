/-! ===== two tables of slots: what they hold (fb_holes is the kit's row, pasted) ===== -/
theorem fb_holes : ∀ (m n : Nat) (f : Nat → Nat), (∀ i, i < n → f i < m) → (∀ i j, i < j → j < n → f i ≠ f j) → n ≤ m := by
  intro m
  induction m with
  | zero =>
    intro n f h1 _
    rcases Nat.eq_zero_or_pos n with h | h
    · omega
    · exact absurd (h1 0 h) (Nat.not_lt_zero _)
  | succ m ih =>
    intro n f h1 h2
    by_cases hx : ∃ i, i < n ∧ f i = m
    · obtain ⟨a, ha, hfa⟩ := hx
      have hg := ih (n - 1) (fun i => if i < a then f i else f (i + 1)) (by
        intro i hi
        by_cases q : i < a
        · simp only [if_pos q]
          have b1 := h1 i (by omega)
          have b2 := h2 i a q ha
          omega
        · simp only [if_neg q]
          have b1 := h1 (i + 1) (by omega)
          have b2 := h2 a (i + 1) (by omega) (by omega)
          omega) (by
        intro i j hij hj
        by_cases q : i < a
        · by_cases r : j < a
          · simp only [if_pos q, if_pos r]
            exact h2 i j hij (by omega)
          · simp only [if_pos q, if_neg r]
            exact h2 i (j + 1) (by omega) (by omega)
        · have r : ¬ j < a := by omega
          simp only [if_neg q, if_neg r]
          exact h2 (i + 1) (j + 1) (by omega) (by omega))
      omega
    · have hg := ih n f (fun i hi => by
        have b1 := h1 i hi
        have b2 : f i ≠ m := fun e => hx ⟨i, hi, e⟩
        omega) h2
      omega
/-- a table of 4096 slots for n entries; h: an entry's home -/
def TB (s : Nat → Int32) (n : Nat) (h : Nat → Nat) : Prop := (∀ q, q < 4096 → s q = 0 ∨ ∃ i, i < n ∧ s q = nI (i + 1)) ∧ (∀ i, i < n → ∃ t, t < 4096 ∧ s ((h i + t) % 4096) = nI (i + 1) ∧ ∀ t', t' < t → s ((h i + t') % 4096) ≠ 0) ∧ ∀ q q', q < 4096 → q' < 4096 → s q = s q' → s q ≠ 0 → q = q'
theorem tb_zero {s : Nat → Int32} {n : Nat} {h : Nat → Nat} (hT : TB s n h) (hn : n ≤ 1500) : ∃ q, q < 4096 ∧ s q = 0 := by
  refine Classical.byContradiction fun hno => ?_
  have hall : ∀ q, q < 4096 → ∃ i, i < n ∧ s q = nI (i + 1) := fun q hq => by
    rcases hT.1 q hq with z | z
    · exact absurd ⟨q, hq, z⟩ hno
    · exact z
  have hf : ∀ q, ∃ i, q < 4096 → i < n ∧ s q = nI (i + 1) := fun q => by
    by_cases hq : q < 4096
    · obtain ⟨i, hi⟩ := hall q hq
      exact ⟨i, fun _ => hi⟩
    · exact ⟨0, fun z => absurd z hq⟩
  have hg := fb_holes n 4096 (fun q => Classical.choose (hf q)) (fun q hq => (Classical.choose_spec (hf q) hq).1) (fun q q' hqq hq' e => by
    have a := (Classical.choose_spec (hf q) (by omega)).2
    have b := (Classical.choose_spec (hf q') hq').2
    have e2 : s q = s q' := by rw [a, b]; exact congrArg (fun z => nI (z + 1)) e
    have := hT.2.2 q q' (by omega) hq' e2 (fun z => hno ⟨q, by omega, z⟩)
    omega)
  omega
theorem tb_probe {s : Nat → Int32} {n : Nat} {h : Nat → Nat} (hT : TB s n h) (hn : n ≤ 1500) {hh : Nat} (hh4 : hh < 4096) (K : Nat → Prop) (hK : ∀ i, i < n → K i → h i = hh) : ∃ t, t < 4096 ∧ (∀ t', t' < t → ∃ i, i < n ∧ s ((hh + t') % 4096) = nI (i + 1) ∧ ¬ K i) ∧ ((s ((hh + t) % 4096) = 0 ∧ ∀ i, i < n → ¬ K i) ∨ ∃ i, i < n ∧ s ((hh + t) % 4096) = nI (i + 1) ∧ K i) := by
  obtain ⟨q, hq, hq0⟩ := tb_zero hT hn
  have hex : ∃ t, s ((hh + t) % 4096) = 0 ∨ ∃ i, i < n ∧ s ((hh + t) % 4096) = nI (i + 1) ∧ K i := by
    refine ⟨(q + 4096 - hh) % 4096, .inl ?_⟩
    rw [show (hh + (q + 4096 - hh) % 4096) % 4096 = q by omega]
    exact hq0
  obtain ⟨t, ht, hmin⟩ := pk_least _ hex
  have ht4 : t < 4096 := by
    refine Classical.byContradiction fun hge => ?_
    refine hmin ((q + 4096 - hh) % 4096) (by omega) (.inl ?_)
    rw [show (hh + (q + 4096 - hh) % 4096) % 4096 = q by omega]
    exact hq0
  have hbef : ∀ t', t' < t → ∃ i, i < n ∧ s ((hh + t') % 4096) = nI (i + 1) ∧ ¬ K i := by
    intro t' ht'
    have hm := hmin t' ht'
    rcases hT.1 ((hh + t') % 4096) (by omega) with z | ⟨i, hi, z⟩
    · exact absurd (.inl z) hm
    · exact ⟨i, hi, z, fun k => hm (.inr ⟨i, hi, z, k⟩)⟩
  refine ⟨t, ht4, hbef, ?_⟩
  rcases ht with z | z
  · refine .inl ⟨z, fun i hi k => ?_⟩
    obtain ⟨ti, h1, h2, h3⟩ := hT.2.1 i hi
    rw [hK i hi k] at h2 h3
    rcases Nat.lt_trichotomy t ti with e | e | e
    · exact h3 t e z
    · subst e
      rw [z] at h2
      exact nI_ne0 (by omega) (by omega) h2.symm
    · obtain ⟨j, hj, e1, e2⟩ := hbef ti e
      rw [h2] at e1
      have := (nI_eq (by omega) (by omega)).mp e1
      have : i = j := by omega
      subst this
      exact e2 k
  · exact .inr z
theorem tb_ins {s : Nat → Int32} {n : Nat} {h h' : Nat → Nat} (hT : TB s n h) (hn : n < 1500) {hh t : Nat} (ht : t < 4096) (hbef : ∀ t', t' < t → s ((hh + t') % 4096) ≠ 0) (h0 : s ((hh + t) % 4096) = 0) (hh' : ∀ j, j < n → h' j = h j) (hn' : h' n = hh) : TB (upd s ((hh + t) % 4096) (nI (n + 1))) (n + 1) h' := by
  have hne : ∀ i, i < n → ¬ nI (i + 1) = nI (n + 1) := fun i hi z => by
    have := (nI_eq (by omega) (by omega)).mp z; omega
  refine ⟨fun q hq => ?_, fun i hi => ?_, fun q q' hq hq' e ne => ?_⟩
  · by_cases e : q = (hh + t) % 4096
    · exact .inr ⟨n, by omega, by simp [upd, e]⟩
    · simp only [upd, if_neg e]
      rcases hT.1 q hq with z | ⟨i, hi, z⟩
      · exact .inl z
      · exact .inr ⟨i, by omega, z⟩
  · by_cases e : i = n
    · subst e
      rw [hn']
      refine ⟨t, ht, by simp [upd], fun t' ht' => ?_⟩
      have hz := hbef t' ht'
      by_cases e2 : (hh + t') % 4096 = (hh + t) % 4096
      · rw [e2] at hz; exact absurd h0 hz
      · simp only [upd, if_neg e2]; exact hz
    · obtain ⟨ti, h1, h2, h3⟩ := hT.2.1 i (by omega)
      rw [hh' i (by omega)]
      refine ⟨ti, h1, ?_, fun t' ht' => ?_⟩
      · by_cases e2 : (h i + ti) % 4096 = (hh + t) % 4096
        · rw [e2, h0] at h2
          exact absurd h2.symm (nI_ne0 (by omega) (by omega))
        · simp only [upd, if_neg e2]; exact h2
      · by_cases e2 : (h i + t') % 4096 = (hh + t) % 4096
        · simp only [upd, if_pos e2]
          exact nI_ne0 (by omega) (by omega)
        · simp only [upd, if_neg e2]; exact h3 t' ht'
  · by_cases e1 : q = (hh + t) % 4096
    · by_cases e2 : q' = (hh + t) % 4096
      · omega
      · exfalso
        simp only [upd, if_pos e1, if_neg e2] at e
        rcases hT.1 q' hq' with z | ⟨i, hi, z⟩
        · rw [z] at e; exact nI_ne0 (by omega) (by omega) e
        · rw [z] at e; exact hne i hi e.symm
    · by_cases e2 : q' = (hh + t) % 4096
      · exfalso
        simp only [upd, if_neg e1, if_pos e2] at e
        rcases hT.1 q hq with z | ⟨i, hi, z⟩
        · rw [z] at e; exact nI_ne0 (by omega) (by omega) e.symm
        · rw [z] at e; exact hne i hi e
      · simp only [upd, if_neg e1, if_neg e2] at e ne
        exact hT.2.2 q q' hq hq' e ne
theorem tb_cong {s : Nat → Int32} {n : Nat} {h h' : Nat → Nat} (hT : TB s n h) (e : ∀ j, j < n → h' j = h j) : TB s n h' := by
  refine ⟨hT.1, fun i hi => ?_, hT.2.2⟩
  rw [e i hi]
  exact hT.2.1 i hi
theorem tb_empty (h : Nat → Nat) : TB (fun _ => 0) 0 h := ⟨fun _ _ => .inl rfl, fun i hi => absurd hi (Nat.not_lt_zero i), fun _ _ _ _ _ ne => absurd rfl ne⟩
theorem tb_s {s s' : Nat → Int32} {n : Nat} {h : Nat → Nat} (hT : TB s n h) (e : ∀ q, q < 4096 → s' q = s q) : TB s' n h := by
  refine ⟨fun q hq => by rw [e q hq]; exact hT.1 q hq, fun i hi => ?_, fun q q' hq hq' => by rw [e q hq, e q' hq']; exact hT.2.2 q q' hq hq'⟩
  obtain ⟨t, h1, h2, h3⟩ := hT.2.1 i hi
  exact ⟨t, h1, by rw [e _ (by omega)]; exact h2, fun t' ht' => by rw [e _ (by omega)]; exact h3 t' ht'⟩

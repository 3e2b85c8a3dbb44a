/-! ===== sheets ===== -/
def wS (A : As) (S : Nat → Option Sh) (f : Int32) : As := (A.1, A.2.1, A.2.2.1, A.2.2.2.1, A.2.2.2.2.1, S, A.2.2.2.2.2.2.1, f)
theorem shX_cong {o c : Nat} {s : Option Sh} {σ σ' : Mem} (h1 : σ'.1 o = σ.1 o) (h2 : σ'.1 c = σ.1 c) (h : shX o c s σ) : shX o c s σ' := by
  unfold shX at h ⊢
  rw [h1, h2]
  exact h
theorem xc_at {S : Nat → Option Sh} {σ : Mem} (h : XC S σ) {k : Nat} (hk : k < 4) : shX (7 + k) (11 + k) (S k) σ := by
  rcases (show k = 0 ∨ k = 1 ∨ k = 2 ∨ k = 3 by omega) with rfl | rfl | rfl | rfl
  · exact h.1
  · exact h.2.1
  · exact h.2.2.1
  · exact h.2.2.2
theorem xc_up {S : Nat → Option Sh} {σ σ' : Mem} (h : XC S σ) {k : Nat} (hk : k < 4) {s : Option Sh} (hn : ∀ j, j < 4 → j ≠ k → σ'.1 (7 + j) = σ.1 (7 + j) ∧ σ'.1 (11 + j) = σ.1 (11 + j)) (hs : shX (7 + k) (11 + k) s σ') : XC (va_up S k s) σ' := by
  have key : ∀ j, j < 4 → shX (7 + j) (11 + j) (va_up S k s j) σ' := by
    intro j hj
    by_cases e : j = k
    · subst e; rw [va_up_self]; exact hs
    · rw [va_up_ne _ _ e]; exact shX_cong (hn j hj e).1 (hn j hj e).2 (xc_at h hj)
  exact ⟨key 0 (by omega), key 1 (by omega), key 2 (by omega), key 3 (by omega)⟩
theorem xc_cong {S : Nat → Option Sh} {σ σ' : Mem} (h : XC S σ) (hn : ∀ j, 7 ≤ j → j < 15 → σ'.1 j = σ.1 j) : XC S σ' :=
  ⟨shX_cong (hn 7 (by omega) (by omega)) (hn 11 (by omega) (by omega)) h.1, shX_cong (hn 8 (by omega) (by omega)) (hn 12 (by omega) (by omega)) h.2.1, shX_cong (hn 9 (by omega) (by omega)) (hn 13 (by omega) (by omega)) h.2.2.1, shX_cong (hn 10 (by omega) (by omega)) (hn 14 (by omega) (by omega)) h.2.2.2⟩
theorem rx_S {A : As} {σ σ' : Mem} (h : RX A σ) {S' : Nat → Option Sh} {f : Int32} (h1 : ∀ o, o = 1 ∨ (18 ≤ o ∧ o ≤ 22) → σ'.1 o = σ.1 o) (h0 : ∀ k, k ≠ 12 → σ'.1 0 k = σ.1 0 k) (hf : σ'.1 0 12 = f) (h2 : σ'.2 = σ.2) (hc : XC S' σ') : RX (wS A S' f) σ' := by
  refine ⟨?_, ?_, ?_, ?_, hc, ?_, ?_, hf⟩
  · show XS (aY A) σ'
    unfold XS
    rw [h1 1 (by omega), h1 18 (by omega), h1 19 (by omega), h1 20 (by omega), h1 21 (by omega), h2]
    exact h.1
  · show EncX (aY A) (aD A) (σ'.2 0 9)
    rw [h2]; exact h.2.1
  · show XH (aY A) (aN A) (aH A) σ'
    unfold XH
    rw [h0 10 (by decide), h2]; exact h.2.2.1
  · show XI (aY A) (aI A) σ'
    unfold XI
    rw [h2]; exact h.2.2.2.1
  · show XL (aY A) σ'
    unfold XL
    rw [h1 22 (by omega), h2]; exact h.2.2.2.2.2.1
  · show σ'.1 0 11 = aT A
    rw [h0 11 (by decide)]; exact h.2.2.2.2.2.2.1
theorem rm_S {A : As} {τ τ' : Mem} (h : RM A τ) {S' : Nat → Option Sh} {f : Int32} (h1 : ∀ o, 1 ≤ o → o ≤ 13 → τ'.1 o = τ.1 o) (h0 : ∀ k, k ≠ 0 → τ'.1 0 k = τ.1 0 k) (hf : τ'.1 0 0 = f) (h2 : τ'.2 = τ.2) (hc : MC S' τ') : RM (wS A S' f) τ' := by
  refine ⟨?_, ?_, ?_, ?_, hc, ?_, ?_, hf⟩
  · show MS' (aY A) τ'
    unfold MS'
    rw [h1 1 (by omega) (by omega), h1 2 (by omega) (by omega), h1 3 (by omega) (by omega), h0 1 (by decide), h0 2 (by decide), h0 3 (by decide)]
    exact h.1
  · show EncM (aY A) (aD A) (τ'.1 4) (τ'.2 0 8)
    rw [h1 4 (by omega) (by omega), h2]; exact h.2.1
  · show MH (aY A) (aN A) (aH A) τ'
    unfold MH
    rw [h0 22 (by decide), h1 10 (by omega) (by omega), h2]; exact h.2.2.1
  · show MI' (aY A) (aI A) τ'
    unfold MI'
    rw [h1 12 (by omega) (by omega), h1 13 (by omega) (by omega), h2]; exact h.2.2.2.1
  · show τ'.2 0 17 = 0
    rw [h2]; exact h.2.2.2.2.2.1
  · show τ'.1 0 51 = aT A
    rw [h0 51 (by decide)]; exact h.2.2.2.2.2.2.1
theorem mc_up {S : Nat → Option Sh} {τ τ' : Mem} (h : MC S τ) {k : Nat} {s : Option Sh} (hn : ∀ j, j < 4 → j ≠ k → ∀ s', shM j s' τ → (∀ x, s' = some x → x.2.1 ≤ 60) → shM j s' τ') (hw : ∀ j x, j < 4 → S j = some x → x.2.1 ≤ 60) (hs : shM k s τ') : MC (va_up S k s) τ' := by
  intro j hj
  by_cases e : j = k
  · subst e; rw [va_up_self]; exact hs
  · rw [va_up_ne _ _ e]; exact hn j hj e _ (h j hj) (fun x hx => hw j x hj hx)
theorem wa_S {A : As} (h : WA A) {S' : Nat → Option Sh} {f : Int32} (hs : ∀ k s, k < 4 → S' k = some s → s.1 ≤ 2 ∧ s.2.1 ≤ 60) : WA (wS A S' f) := ⟨h.1, h.2.1, h.2.2.1, h.2.2.2.1, h.2.2.2.2.1, hs⟩
theorem wa_up {A : As} (h : WA A) {k : Nat} {s : Option Sh} (hs : ∀ x, s = some x → x.1 ≤ 2 ∧ x.2.1 ≤ 60) : ∀ j x, j < 4 → va_up (aS A) k s j = some x → x.1 ≤ 2 ∧ x.2.1 ≤ 60 := by
  intro j x hj hx
  by_cases e : j = k
  · subst e; rw [va_up_self] at hx; exact hs x hx
  · rw [va_up_ne _ _ e] at hx; exact h.2.2.2.2.2 j x hj hx
theorem sat_in (σ : Mem) {k : Nat} (hk : k < 4) : FX8_sheetAt σ (nI k) = some (some (7 + k), σ) := by
  unfold FX8_sheetAt
  have ht : (nI k).toInt = k := nI_toInt (by omega)
  rw [if_neg (show ¬ nI k < 0 by rw [toInt_lt, ht]; show ¬ (k : Int) < 0; omega), if_pos (show nI k < 4 by rw [toInt_lt, ht]; show (k : Int) < 4; omega), rd_in hk (by decide)]
theorem sat_out (σ : Mem) {a : Int32} (h : ¬ (0 ≤ a.toInt ∧ a.toInt < 4)) : FX8_sheetAt σ a = some (none, σ) := by
  unfold FX8_sheetAt
  by_cases h1 : a < 0
  · rw [if_pos h1]
  · rw [if_neg h1, if_neg (show ¬ a < 4 by rw [toInt_lt] at h1 ⊢; change ¬ a.toInt < 0 at h1; show ¬ a.toInt < 4; omega)]
theorem sh_some {R : Type} {o : Nat} (h : 7 ≤ o ∧ o ≤ 10) (a : Option R) (f : Nat → Option R) : sh (some o) a f = f o := by
  unfold sh
  simp only [if_pos h]
theorem sh_none {R : Type} (a : Option R) (f : Nat → Option R) : sh none a f = a := rfl
theorem ila_eq (σ : Mem) (a : Int32) : FX8_isLane σ a = some (if 0 ≤ a.toInt ∧ a.toInt ≤ 2 then 1 else 0, σ) := by
  unfold FX8_isLane
  by_cases h1 : a < 0
  · rw [if_pos h1, if_neg (by rw [toInt_lt] at h1; change a.toInt < 0 at h1; omega)]; rfl
  · rw [if_neg h1]
    rw [toInt_lt] at h1
    change ¬ a.toInt < 0 at h1
    by_cases h2 : (3 : Int32) ≤ a
    · rw [if_pos h2, if_neg (by rw [toInt_le] at h2; change 3 ≤ a.toInt at h2; omega)]; rfl
    · rw [if_neg h2, if_pos (by rw [toInt_le] at h2; change ¬ 3 ≤ a.toInt at h2; omega)]; rfl
theorem hno_none {o : Nat} {σ : Mem} (h : σ.1 o 1 = -1) : FX5_hasNothing o σ = some (1, σ) := by
  unfold FX5_hasNothing
  rw [if_pos h]; rfl
theorem nI_ne_m1 {l : Nat} (hl : l < 2 ^ 31) : ¬ nI l = (-1 : Int32) := by
  intro h
  have h1 : (nI l).toInt = (-1 : Int32).toInt := by rw [h]
  rw [nI_toInt hl] at h1
  change (l : Int) = -1 at h1
  omega
theorem hno_some {o l : Nat} {σ : Mem} (h : σ.1 o 1 = nI l) (hl : l ≤ 2) : FX5_hasNothing o σ = some (0, σ) := by
  unfold FX5_hasNothing
  rw [h, if_neg (nI_ne_m1 (by omega))]; rfl
theorem stI_in {R : Type} {σ : Mem} {o n j : Nat} (h : j < n) (hn : n < 2 ^ 31) (v : Int32) (f : Mem → Option R) : stI σ o n (nI j) v f = f (setI σ o j v) := by
  unfold stI
  rw [rd_in h hn]
theorem setA_setI {σ : Mem} {o k : Nat} {v : Int32} {f : Nat → Int32} : setA (setI σ o k v) o f = setA σ o f := by
  unfold setA setI
  refine Prod.ext ?_ rfl
  funext a
  by_cases ha : a = o
  · subst ha; simp only [va_up_self]
  · simp only [va_up_ne _ _ ha]
theorem setA_self {σ : Mem} {o : Nat} {f : Nat → Int32} (h : ∀ j, f j = σ.1 o j) : setA σ o f = σ := by
  unfold setA
  refine Prod.ext ?_ rfl
  funext a
  by_cases ha : a = o
  · subst ha; simp only [va_up_self]; funext j; exact h j
  · simp only [va_up_ne _ _ ha]
theorem setA_ext {σ : Mem} {o : Nat} {f g : Nat → Int32} (h : ∀ j, f j = g j) : setA σ o f = setA σ o g := by
  rw [show f = g from funext h]
theorem fill_loop (o n : Nat) (hn : n < 2 ^ 30) (v : Int32) : ∀ (m i fuel : Nat) (σ : Mem), i + m = n → m < fuel → FJ7_fill_53178_5 o n fuel σ v (nI i) (nI n) = some (setA σ o (fun j => if i ≤ j ∧ j < n then v else σ.1 o j)) := by
  intro m
  induction m with
  | zero =>
    intro i fuel σ hi hf
    obtain ⟨f, rfl⟩ : ∃ f, fuel = f + 1 := ⟨fuel - 1, by omega⟩
    show BJ7_fill_53178_5 o n (FJ7_fill_53178_5 o n f) σ v (nI i) (nI n) = _
    unfold BJ7_fill_53178_5
    rw [if_pos (nI_le (by omega) (by omega)), setA_self]
    intro j
    rw [if_neg (by omega)]
  | succ m ih =>
    intro i fuel σ hi hf
    obtain ⟨f, rfl⟩ : ∃ f, fuel = f + 1 := ⟨fuel - 1, by omega⟩
    show BJ7_fill_53178_5 o n (FJ7_fill_53178_5 o n f) σ v (nI i) (nI n) = _
    unfold BJ7_fill_53178_5
    rw [if_neg (nI_ge (by omega) (by omega)), stI_in (by omega) (by omega), nm_eq, nI_1, ih (i + 1) f _ (by omega) (by omega), setA_setI]
    refine congrArg some (setA_ext fun j => ?_)
    rw [setI_s1]
    by_cases e : j = i
    · subst e; simp [upd]; omega
    · by_cases h1 : i + 1 ≤ j ∧ j < n
      · rw [if_pos h1, if_pos (by omega)]
      · rw [if_neg h1, if_neg (by omega)]; simp [upd, e]
theorem fill_eq (o n : Nat) (hn : n < 90000) (σ : Mem) (v : Int32) : FJ7_fill_53178 o n σ v = some (setA σ o (fun j => if j < n then v else σ.1 o j)) := by
  unfold FJ7_fill_53178
  rw [nm_eq]
  have := fill_loop o n (by omega) v n 0 FU σ (by omega) (by show n < 10000000; omega)
  rw [show (0 : Int32) = nI 0 from rfl, show Int32.ofNat n = nI n from rfl, this]
  refine congrArg some (setA_ext fun j => ?_)
  by_cases h : j < n
  · rw [if_pos h, if_pos (by omega)]
  · rw [if_neg h, if_neg (by omega)]
theorem n60 (k i : Nat) : ((60 : Int32) * nI k) + nI i = nI (60 * k + i) := by
  rw [show (60 : Int32) = nI 60 from rfl, pk_mul, nI_add]
/-- the row that a sheet gets -/
def newS (l n : Nat) : Option Sh := some (l, n, fun _ => 0)
theorem sheet_x {A : As} {σ : Mem} (h : RX A σ) {k l n : Nat} (hk : k < 4) (hl : l ≤ 2) (hn : n ≤ 60) : ∃ σ', FX8_sheet σ (nI k) (nI l) (nI n) = some (1, σ') ∧ RX (wS A (va_up (aS A) k (newS l n)) 0) σ' := by
  refine ⟨setA (setI (setI (setI σ 0 12 0) (7 + k) 1 (nI l)) (7 + k) 2 (nI n)) (7 + k + 4) (fun j => if j < 60 then 0 else (setI (setI (setI σ 0 12 0) (7 + k) 1 (nI l)) (7 + k) 2 (nI n)).1 (7 + k + 4) j), ?_, ?_⟩
  · unfold FX8_sheet
    have hlt : (nI l).toInt = l := nI_toInt (by omega)
    have hnt : (nI n).toInt = n := nI_toInt (by omega)
    rw [nm_eq, sat_in _ hk, bi_some, sh_some (by omega), ila_eq, if_pos (by omega), bi_some, if_neg (show ¬ (1 : Int32) = 0 by decide), if_pos (show nI n ≤ 60 by rw [toInt_le, hnt]; show (n : Int) ≤ 60; omega), if_pos (show 0 ≤ nI n by rw [toInt_le, hnt]; show (0 : Int) ≤ n; omega)]
    unfold FX5_renew
    rw [nm_eq, nm_eq, fill_eq _ _ (by omega), bv_some, bv_some]
  · have e11 : 7 + k + 4 = 11 + k := by omega
    rw [e11]
    generalize hg : (fun j => if j < 60 then 0 else (setI (setI (setI σ 0 12 0) (7 + k) 1 (nI l)) (7 + k) 2 (nI n)).1 (11 + k) j) = g
    have hr : ∀ o, o ≠ 0 → o ≠ 7 + k → o ≠ 11 + k → (setA (setI (setI (setI σ 0 12 0) (7 + k) 1 (nI l)) (7 + k) 2 (nI n)) (11 + k) g).1 o = σ.1 o := fun o h1 h2 h3 => by
      rw [setA_ne1 h3, setI_ne1 h2, setI_ne1 h2, setI_ne1 h1]
    refine rx_S h (fun o ho => hr o (by omega) (by omega) (by omega)) (fun j hj => ?_) ?_ rfl (xc_up h.2.2.2.2.1 hk (fun j hj hne => ⟨hr _ (by omega) (by omega) (by omega), hr _ (by omega) (by omega) (by omega)⟩) ?_)
    · rw [setA_ne1 (by omega), setI_ne1 (by omega), setI_ne1 (by omega), setI_s1]; simp [upd, hj]
    · rw [setA_ne1 (by omega), setI_ne1 (by omega), setI_ne1 (by omega), setI_s1]; simp [upd]
    · show _ = nI l ∧ _ = nI n ∧ _
      refine ⟨?_, ?_, fun i hi => ?_⟩
      · rw [setA_ne1 (by omega), setI_s1]; simp [upd, setI_s1]
      · rw [setA_ne1 (by omega), setI_s1]; simp [upd]
      · rw [setA_s1, ← hg]
        show (if i < 60 then _ else _) = (0 : Int32)
        rw [if_pos (by have : i < n := hi; omega)]
theorem shM_cong {k : Nat} {s : Option Sh} {τ τ' : Mem} (h1 : τ'.1 28 k = τ.1 28 k) (h2 : τ'.1 29 k = τ.1 29 k) (h3 : ∀ i, i < 60 → τ'.1 30 (60 * k + i) = τ.1 30 (60 * k + i)) (hs : ∀ x, s = some x → x.2.1 ≤ 60) (h : shM k s τ) : shM k s τ' := by
  unfold shM at h ⊢
  cases s with
  | none => exact h1.trans h
  | some x =>
    obtain ⟨a, b, c⟩ := h
    exact ⟨h1.trans a, h2.trans b, fun i hi => (h3 i (by have := hs x rfl; omega)).trans (c i hi)⟩
theorem blk2 {a : Int32} {n : Nat} (h : 0 ≤ a.toInt ∧ a.toInt ≤ n) : ∃ k, k ≤ n ∧ a = nI k := by
  obtain ⟨k, hk, e⟩ := blk (n := n + 1) (a := a) (by omega)
  exact ⟨k, by omega, e⟩

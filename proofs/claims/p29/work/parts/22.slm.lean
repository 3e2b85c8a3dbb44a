/-! ===== the reference's push ===== -/
theorem pk_md {a d : Nat} (ha : a < 2 ^ 31) (h0 : 0 < d) (hd : d < 2 ^ 31) : nI a - nI a / nI d * nI d = nI (a % d) := by
  rw [pk_div ha h0 hd, pk_mul, pk_sub (Nat.div_mul_le_self a d)]
  congr 1
  have := Nat.div_add_mod a d
  rw [Nat.mul_comm] at this
  omega
theorem m1_add (n : Nat) : (n = 0 ∧ nI n + (-1) = -1) ∨ ∃ m, n = m + 1 ∧ nI n + (-1) = nI m := by
  cases n with
  | zero => exact .inl ⟨rfl, by decide⟩
  | succ m => exact .inr ⟨m, rfl, pk_m1 m⟩
theorem m1_toInt : (-1 : Int32).toInt = -1 := rfl
theorem i_add0 (x : Int32) : x + 0 = x := Int32.add_zero x
def hoI (h : Option (Nat × Nat)) : Int32 := match h with
  | none => 0
  | some g => nI (2 ^ g.2)
def SlM (Y : Yd) (r : PR) (τ0 τ : Mem) : Prop := (∀ o, o ≠ 0 → o ≠ 4 → τ.1 o = τ0.1 o) ∧ (∀ q, q ≠ 19 → τ.1 0 q = τ0.1 0 q) ∧ (∀ o, o ≠ 0 → τ.2 o = τ0.2 o) ∧ (∀ q, q ≠ 8 → q ≠ 18 → τ.2 0 q = τ0.2 0 q) ∧ EncM Y r.1 (τ.1 4) (τ.2 0 8) ∧ (∀ i, bit64 (τ.2 0 18) i = r.2.1 i) ∧ τ.1 0 19 = hoI r.2.2
theorem ms_cong {Y : Yd} {τ τ' : Mem} (h1 : τ'.1 1 = τ.1 1) (h2 : τ'.1 2 = τ.1 2) (h3 : τ'.1 3 = τ.1 3) (h0 : ∀ q, q = 1 ∨ q = 2 ∨ q = 3 → τ'.1 0 q = τ.1 0 q) (h : MS' Y τ) : MS' Y τ' := by
  unfold MS'
  rw [h1, h2, h3, h0 1 (by omega), h0 2 (by omega), h0 3 (by omega)]
  exact h
theorem slm_ms {Y : Yd} {r : PR} {τ0 τ : Mem} (h : SlM Y r τ0 τ) (hM : MS' Y τ0) : MS' Y τ := ms_cong (h.1 1 (by decide) (by decide)) (h.1 2 (by decide) (by decide)) (h.1 3 (by decide) (by decide)) (fun q hq => h.2.1 q (by omega)) hM
theorem set_set (D : Dy) (k c e : Nat) : setPl (setPl D k c) k e = setPl D k e := by
  unfold setPl
  refine Prod.ext ?_ rfl
  funext j
  show (if j = k then e else if j = k then c else D.1 j) = if j = k then e else D.1 j
  by_cases h : j = k
  · rw [if_pos h, if_pos h]
  · rw [if_neg h, if_neg h, if_neg h]
theorem set_self (D : Dy) (k : Nat) : setPl D k (D.1 k) = D := by
  unfold setPl
  refine Prod.ext ?_ rfl
  funext j
  show (if j = k then D.1 k else D.1 j) = D.1 j
  by_cases h : j = k
  · rw [if_pos h, h]
  · rw [if_neg h]
/-- one block's place is written -/
theorem slm_4 {Y : Yd} {D : Dy} {tr : Nat → Bool} {h : Option (Nat × Nat)} {τ0 τ : Mem} (hS : SlM Y (D, tr, h) τ0 τ) {k p : Nat} (hk : k < db Y) : SlM Y (setPl D k p, tr, h) τ0 (setI τ 4 k (lieI p)) := by
  obtain ⟨a1, a2, a3, a4, a5, a6, a7⟩ := hS
  refine ⟨fun o h0 h4 => by rw [setI_ne1 h4]; exact a1 o h0 h4, fun q hq => by rw [setI_ne1 (by decide)]; exact a2 q hq, a3, a4, ⟨fun j hj => ?_, a5.2⟩, a6, by rw [setI_ne1 (by decide)]; exact a7⟩
  rw [setI_s1]
  show upd (τ.1 4) k (lieI p) j = lieI (if j < db Y then (if j = k then p else D.1 j) else pad Y)
  have hold := a5.1 j hj
  unfold plM at hold
  by_cases e : j = k
  · subst e; rw [if_pos hk, if_pos rfl]; simp [upd]
  · rw [if_neg e]; simp only [upd, if_neg e]; exact hold
theorem slm_18 {Y : Yd} {D : Dy} {tr : Nat → Bool} {h : Option (Nat × Nat)} {τ0 τ : Mem} (hS : SlM Y (D, tr, h) τ0 τ) {e : Nat} (he : e < 64) : SlM Y (D, adT tr e, h) τ0 (setL τ 0 18 ((τ.2 0 18) ||| ((1 : Int64) <<< ((nI e).toInt64 &&& 63)))) := by
  obtain ⟨a1, a2, a3, a4, a5, a6, a7⟩ := hS
  refine ⟨a1, a2, fun o ho => by rw [setL_ne2 ho]; exact a3 o ho, fun q h8 h18 => ?_, a5, fun i => ?_, a7⟩
  · show vp_updL (τ.2 0) 18 _ q = _
    simp only [vp_updL, if_neg h18]
    exact a4 q h8 h18
  · show bit64 ((τ.2 0 18) ||| ((1 : Int64) <<< ((nI e).toInt64 &&& 63))) i = (tr i || decide (i = e))
    rw [w_or, w_one he, a6]
theorem slm_8 {Y : Yd} {D : Dy} {tr : Nat → Bool} {h : Option (Nat × Nat)} {τ0 τ : Mem} (hS : SlM Y (D, tr, h) τ0 τ) {e : Nat} (he : e < dn Y) (h64 : e < 64) (h3 : dg Y e = 3) : SlM Y (filC D e, tr, h) τ0 (setL τ 0 8 ((τ.2 0 8) ||| ((1 : Int64) <<< ((nI e).toInt64 &&& 63)))) := by
  obtain ⟨a1, a2, a3, a4, a5, a6, a7⟩ := hS
  refine ⟨a1, a2, fun o ho => by rw [setL_ne2 ho]; exact a3 o ho, fun q h8 h18 => ?_, ⟨a5.1, fun i => ?_⟩, a6, a7⟩
  · show vp_updL (τ.2 0) 8 _ q = _
    simp only [vp_updL, if_neg h8]
    exact a4 q h8 h18
  · show bit64 ((τ.2 0 8) ||| ((1 : Int64) <<< ((nI e).toInt64 &&& 63))) i = (decide (i < dn Y) && dg Y i == 3 && (i == e || D.2 i))
    rw [w_or, w_one h64, a5.2]
    unfold filM
    by_cases q : i = e
    · subst q; rw [decide_eq_true he, h3]; simp
    · rw [decide_eq_false q, beq_false_of_ne q]; simp
theorem fil_set (D : Dy) (k c e : Nat) : filC (setPl D k c) e = setPl (filC D e) k c := rfl
theorem what_cong {Y : Yd} {T : Nat → Bool} {D D' : Dy} (h : D.2 = D'.2) (e : Nat) : whatD Y T D e = whatD Y T D' e := by
  unfold whatD
  rw [h]
/-- ahead of where a block is all lies as it lay -/
def Ahd (Y : Yd) (d : Nat) (D0 D : Dy) (n : Nat) : Prop := ∀ j, j < db Y → ∀ e, e < dn Y → far Y d e < n → (D.1 j = e ↔ D0.1 j = e)

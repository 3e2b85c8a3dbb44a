/-! ===== rows: the class's count; the reference; the call ===== -/
theorem wkx_eq {Y : Yd} (hY : WFY Y) {t : Nat → Bool} {n : Nat} (hn : n ≤ 3) : ∀ (r d N : Nat) (D : Dy) (y left : Int64) (l : Nat → Bool) (x : Nat) (L : List Nat) (σ : Mem), r + 1 + d = n → r + 1 < N → WFD Y D → EncX Y D y → (∀ i, bit64 left i = l i) → InX Y T0 σ → (∀ i, i < 64 → bit64 (σ.2 5 4) i = t i) → PfX (4 * db Y) d x σ → RcX (4 * db Y) n L σ → L.length + (4 * db Y) ^ (r + 1) < 20000 → ∃ σ', FRX2_walk N σ y (nI d) (nI n) left = some σ' ∧ InX Y T0 σ' ∧ PfX (4 * db Y) d x σ' ∧ RcX (4 * db Y) n (L ++ wkc Y t (r + 1) D l x) σ' ∧ KpW σ σ' := by
  have h6 := hY.2.1
  intro r
  induction r with
  | zero =>
    intro d N D y left l x L σ hr hN hD hy hl hI hT hP hR hLn
    obtain ⟨N', rfl⟩ : ∃ N', N = N' + 1 := ⟨N - 1, by omega⟩
    have un : FRX2_walk (N' + 1) σ y (nI d) (nI n) left = BX2_walk_19 (FRX2_walk N') (FX2_walk_19 (FRX2_walk N') 9999999) σ y (nI d) (nI n) left (nI 0) := by
      show FX2_walk (FRX2_walk N') σ y (nI d) (nI n) left = _
      unfold FX2_walk
      rw [if_neg (nI_pos (by omega)), if_neg (nI_ge (by omega) (by omega)), if_pos (show nI d < (3 : Int32) from nI_lt (b := 3) (by omega) (by decide))]
      rfl
    rw [un]
    unfold BX2_walk_19
    rw [hI.1.2.2.1]
    by_cases hb : db Y = 0
    · rw [hb, if_pos (show nI 0 ≤ nI 0 by decide)]
      refine ⟨σ, rfl, hI, by rw [hb] at hP; exact hP, ?_, kpw_rfl σ⟩
      rw [wkc_s, hb]
      show RcX _ n (L ++ []) σ
      rw [List.append_nil]
      rw [hb] at hR
      exact hR
    · rw [if_neg (nI_ge (by omega) (by omega))]
      refine wkx_loop hY hn (r := 0) (by omega) hD hy hl (FRX2_walk N') (fun h => absurd h (Nat.lt_irrefl 0)) (4 * db Y) 0 0 9999999 FU L σ (by omega) (by omega) (by omega) (by omega) (by show 4 < 0 + 10000000; omega) hI hT hP hR ?_
      rw [Nat.pow_zero]
      rw [Nat.zero_add, Nat.pow_one] at hLn
      omega
  | succ r ih =>
    intro d N D y left l x L σ hr hN hD hy hl hI hT hP hR hLn
    obtain ⟨N', rfl⟩ : ∃ N', N = N' + 1 := ⟨N - 1, by omega⟩
    have un : FRX2_walk (N' + 1) σ y (nI d) (nI n) left = BX2_walk_19 (FRX2_walk N') (FX2_walk_19 (FRX2_walk N') 9999999) σ y (nI d) (nI n) left (nI 0) := by
      show FX2_walk (FRX2_walk N') σ y (nI d) (nI n) left = _
      unfold FX2_walk
      rw [if_neg (nI_pos (by omega)), if_neg (nI_ge (by omega) (by omega)), if_pos (show nI d < (3 : Int32) from nI_lt (b := 3) (by omega) (by decide))]
      rfl
    rw [un]
    unfold BX2_walk_19
    rw [hI.1.2.2.1]
    by_cases hb : db Y = 0
    · rw [hb, if_pos (show nI 0 ≤ nI 0 by decide)]
      refine ⟨σ, rfl, hI, by rw [hb] at hP; exact hP, ?_, kpw_rfl σ⟩
      rw [wkc_s, hb]
      show RcX _ n (L ++ []) σ
      rw [List.append_nil]
      rw [hb] at hR
      exact hR
    · rw [if_neg (nI_ge (by omega) (by omega))]
      refine wkx_loop hY hn (r := r + 1) (by omega) hD hy hl (FRX2_walk N') (fun _ D' y' left' l' x' L' σ' a1 a2 a3 a4 a5 a6 a7 a8 => ih (d + 1) N' D' y' left' l' x' L' σ' (by omega) (by omega) a1 a2 a3 a4 a5 a6 a7 a8) (4 * db Y) 0 0 9999999 FU L σ (by omega) (by omega) (by omega) (by omega) (by show 4 < 0 + 10000000; omega) hI hT hP hR ?_
      rw [Nat.pow_succ, Nat.mul_comm] at hLn
      exact hLn
theorem pw24 {B n : Nat} (hB : B ≤ 24) (hn : n ≤ 3) : B ^ n ≤ 13824 := by
  have h1 : B ^ n ≤ 24 ^ n := Nat.pow_le_pow_left hB n
  have h2 : 24 ^ n ≤ 24 ^ 3 := Nat.pow_le_pow_right (by decide) hn
  have h3 : 24 ^ 3 = 13824 := by decide
  omega
/-- all rows of n pushes that leave just these tracks -/
def rowL (A : As) (t : Nat → Bool) (n : Nat) : List Nat := wkc (aY A) t n (aD A) (fun _ => false) 0
theorem cnt_x {A : As} {σ : Mem} (hA : WA A) (hX : RX A σ) {n : Nat} (hn : 1 ≤ n ∧ n ≤ 3) (tr : Int64) : ∃ σ', FX2_count σ (σ.2 0 9) (nI n) tr = some (nI (rowL A (bit64 tr) n).length, σ') ∧ RX A σ' ∧ ∀ z, (rowL A (bit64 tr) n).head? = some z → ∀ q, q < n → σ'.1 29 q = nI (num (dgt (4 * db (aY A)) n z q)) := by
  have h6 := hA.1.2.1
  obtain ⟨r, rfl⟩ : ∃ r, n = r + 1 := ⟨n - 1, by omega⟩
  have hpw := pw24 (B := 4 * db (aY A)) (n := r + 1) (by omega) hn.2
  have hI : InX (aY A) T0 (setI (setL σ 5 4 tr) 5 5 0) := by
    refine in_set (σ := setL σ 5 4 tr) ⟨xs_cong rfl rfl rfl rfl rfl (setL_ne2 (by decide)) hX.1, hX.2.2.2.2.2.1.2, x_T0 hX⟩ (by omega)
  obtain ⟨σ', r1, r2, r3, r4, r5⟩ := wkx_eq hA.1 (t := bit64 tr) hn.2 r 0 14 (aD A) (σ.2 0 9) 0 (fun _ => false) 0 [] _ (by omega) (by omega) hA.2.1 hX.2.1 (fun i => w_0 i) hI (fun i _ => by
    show bit64 (vp_updL (σ.2 5) 4 tr 4) i = _
    simp only [vp_updL, if_true]) (fun q hq => absurd hq (Nat.not_lt_zero _)) ⟨rfl, (fun z hz => by cases hz)⟩ (by simp only [List.length_nil]; omega)
  rw [List.nil_append] at r4
  refine ⟨σ', ?_, ?_, r4.2⟩
  · unfold FX2_count
    rw [nm_eq, nm_eq, if_neg (show ¬ (3 : Int32) < nI (r + 1) from nI_nlt (a := 3) hn.2 (by decide))]
    rw [show FTX2_walk (setI (setL σ 5 4 tr) 5 5 0) (σ.2 0 9) 0 (nI (r + 1)) 0 = some σ' from r1, bv_some, r4.1]
    rfl
  · refine rx_fr hX ⟨fun o ho => ?_, fun o ho => ?_⟩ r2.2.1 (w_ext fun i _ => by rw [r2.2.2 i, w_0]; rfl)
    · rw [r5.1 o (by omega) (by omega) (by omega) (by omega) (by omega), setI_ne1 (by omega)]; rfl
    · rw [r5.2 o (by omega)]
      show (setL σ 5 4 tr).2 o = _
      rw [setL_ne2 (by omega)]
/-! the reference -/
def gr (Y : Yd) (z : Nat) : Nat → Dy → (Nat → Bool) → Option (Nat → Bool)
  | 0, _, l => some l
  | r + 1, D, l => if anyT Y (pp Y T0 D (z / (4 * db Y) ^ r % (4 * db Y))).2.1 then gr Y z r (pp Y T0 D (z / (4 * db Y) ^ r % (4 * db Y))).1 (orT l (pp Y T0 D (z / (4 * db Y) ^ r % (4 * db Y))).2.1) else none
def vr (Y : Yd) (t : Nat → Bool) (r : Nat) (D : Dy) (l : Nat → Bool) (z : Nat) : Bool := match gr Y z r D l with
  | none => false
  | some s => eqT s t
def flt (g : Nat → Bool) : Nat → Nat → List Nat
  | _, 0 => []
  | x, m + 1 => (if g x then [x] else []) ++ flt g (x + 1) m
theorem flt_add (g : Nat → Bool) : ∀ (a x b : Nat), flt g x (a + b) = flt g x a ++ flt g (x + a) b := by
  intro a
  induction a with
  | zero => intro x b; rw [Nat.zero_add]; rfl
  | succ a ih =>
    intro x b
    rw [show a + 1 + b = (a + b) + 1 by omega]
    show (if g x then [x] else []) ++ flt g (x + 1) (a + b) = ((if g x then [x] else []) ++ flt g (x + 1) a) ++ _
    rw [ih, List.append_assoc, show x + 1 + a = x + (a + 1) by omega]
theorem flt_cong {g h : Nat → Bool} : ∀ {m x : Nat}, (∀ z, x ≤ z → z < x + m → g z = h z) → flt g x m = flt h x m := by
  intro m
  induction m with
  | zero => intro x _; rfl
  | succ m ih =>
    intro x hh
    unfold flt
    rw [hh x (Nat.le_refl _) (by omega), ih fun z h1 h2 => hh z (by omega) (by omega)]
theorem flt_nil {m x : Nat} : flt (fun _ => false) x m = [] := by
  induction m generalizing x with
  | zero => rfl
  | succ m ih => unfold flt; rw [ih]; rfl
theorem flt_mul (g : Nat → Bool) (c s : Nat) : ∀ (m p : Nat), wkp (fun p => flt g (s + p * c) c) p m = flt g (s + p * c) (m * c) := by
  intro m
  induction m with
  | zero => intro p; rw [Nat.zero_mul]; rfl
  | succ m ih =>
    intro p
    show flt g (s + p * c) c ++ wkp _ (p + 1) m = _
    rw [ih, Nat.succ_mul p c, Nat.succ_mul m c, Nat.add_comm (m * c) c, flt_add, Nat.add_assoc]
theorem wkp_cong {f g : Nat → List Nat} : ∀ {m p : Nat}, (∀ q, p ≤ q → q < p + m → f q = g q) → wkp f p m = wkp g p m := by
  intro m
  induction m with
  | zero => intro p _; rfl
  | succ m ih =>
    intro p h
    unfold wkp
    rw [h p (Nat.le_refl _) (by omega), ih fun q h1 h2 => h q (by omega) (by omega)]
theorem wkc_flt {Y : Yd} {t : Nat → Bool} : ∀ (r : Nat) (D : Dy) (l : Nat → Bool) (x : Nat), wkc Y t r D l x = flt (vr Y t r D l) (x * (4 * db Y) ^ r) ((4 * db Y) ^ r) := by
  intro r
  induction r with
  | zero =>
    intro D l x
    rw [Nat.pow_zero, Nat.mul_one]
    show (if eqT l t then [x] else []) = (if eqT l t then [x] else []) ++ []
    rw [List.append_nil]
  | succ r ih =>
    intro D l x
    generalize hB : 4 * db Y = B at *
    have e1 : flt (vr Y t (r + 1) D l) (x * B ^ (r + 1)) (B ^ (r + 1)) = wkp (fun p => flt (vr Y t (r + 1) D l) (x * B ^ (r + 1) + p * B ^ r) (B ^ r)) 0 B := by
      rw [flt_mul, Nat.zero_mul, Nat.pow_succ, Nat.mul_comm (B ^ r) B]
      exact congrArg (fun z => flt (vr Y t (r + 1) D l) z (B * B ^ r)) (Nat.add_zero _).symm
    rw [e1, wkc_s, hB]
    refine wkp_cong fun p _ hp => ?_
    have hp : p < B := by omega
    have hs : x * B ^ (r + 1) + p * B ^ r = (x * B + p) * B ^ r := by rw [Nat.pow_succ, Nat.mul_comm (B ^ r) B, ← Nat.mul_assoc, Nat.add_mul]
    rw [hs]
    have hdg : ∀ z, (x * B + p) * B ^ r ≤ z → z < (x * B + p) * B ^ r + B ^ r → z / B ^ r % B = p := by
      intro z h1 h2
      have : z / B ^ r = x * B + p := by
        exact Nat.div_eq_of_lt_le h1 (by rw [Nat.succ_mul]; exact h2)
      rw [this, Nat.mul_comm, Nat.mul_add_mod, Nat.mod_eq_of_lt hp]
    unfold wkF
    rw [hB]
    cases ha : anyT Y (pp Y T0 D p).2.1
    · rw [if_neg (by decide)]
      rw [flt_cong (h := fun _ => false), flt_nil]
      intro z h1 h2
      unfold vr gr
      rw [hB, hdg z h1 h2, ha]
      rfl
    · rw [if_pos rfl, ih]
      refine flt_cong fun z h1 h2 => ?_
      show _ = vr Y t (r + 1) D l z
      unfold vr
      rw [show gr Y z (r + 1) D l = gr Y z r (pp Y T0 D p).1 (orT l (pp Y T0 D p).2.1) by
        show (if anyT Y (pp Y T0 D (z / (4 * db Y) ^ r % (4 * db Y))).2.1 then _ else _) = _
        rw [hB, hdg z h1 h2, ha, if_pos rfl]]

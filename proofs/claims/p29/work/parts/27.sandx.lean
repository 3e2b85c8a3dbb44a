/-! ===== sand: the class ===== -/
def InX (Y : Yd) (T : Nat → Bool) (σ : Mem) : Prop := XS Y σ ∧ XLd Y σ ∧ ∀ i, bit64 (σ.2 2 5) i = T i
def KpX (σ σ' : Mem) : Prop := (∀ o, o ≠ 2 → o ≠ 22 → σ'.1 o = σ.1 o) ∧ ∀ o, o ≠ 2 → σ'.2 o = σ.2 o
theorem kpx_rfl (σ : Mem) : KpX σ σ := ⟨fun _ _ _ => rfl, fun _ _ => rfl⟩
theorem kpx_trans {a b c : Mem} (h : KpX a b) (h' : KpX b c) : KpX a c := ⟨fun o h1 h2 => (h'.1 o h1 h2).trans (h.1 o h1 h2), fun o h1 => (h'.2 o h1).trans (h.2 o h1)⟩
theorem kpx_fr {a b : Mem} (h : KpX a b) : FrX a b := ⟨fun o ho => h.1 o (by omega) (by omega), fun o ho => h.2 o (by omega)⟩
theorem gox {Y : Yd} (hY : WFY Y) {T : Nat → Bool} (hT : TOk Y T) {D : Dy} (hD : WFD Y D) {σ : Mem} (hI : InX Y T σ) {y : Int64} (hy : EncX Y D y) {k d : Nat} (hk : k < db Y) (hd : d < 4) : ∃ σ', FX6_goes σ y (nI k) (nI d) = some (if anyT Y (pushD Y T D k d).2.1 then 1 else 0, σ') ∧ InX Y T σ' ∧ KpX σ σ' ∧ EncX Y (pushD Y T D k d).1 (σ'.2 2 6) ∧ (∀ i, bit64 (σ'.2 2 7) i = (pushD Y T D k d).2.1 i) ∧ σ'.1 2 8 = hbI (pushD Y T D k d).2.2 ∧ σ'.1 2 9 = hgI (pushD Y T D k d).2.2 ∧ WFD Y (pushD Y T D k d).1 ∧ (∀ g, (pushD Y T D k d).2.2 = some g → g.1 < db Y ∧ g.2 < 2) := by
  obtain ⟨σ', e1, e2, e3⟩ := goes_x hY hT hD hI.1 hI.2.1 hI.2.2 hy hk hd
  exact ⟨σ', e1, ⟨frx_xs (frx_go e2) hI.1, e2.2.2.2.1, fun i => by rw [e2.2.2.1]; exact hI.2.2 i⟩, ⟨e2.1, e2.2.1⟩, e2.2.2.2.2.1, e2.2.2.2.2.2.1, e2.2.2.2.2.2.2.1, e2.2.2.2.2.2.2.2, e3.1, e3.2.2⟩
theorem hb_iff {h : Option (Nat × Nat)} {k g : Nat} (hk : k < 100) (hg : g < 100) (hh : ∀ q, h = some q → q.1 < 100 ∧ q.2 < 100) : (hbI h = nI k ∧ hgI h = nI g) ↔ h = some (k, g) := by
  cases h with
  | none =>
    constructor
    · rintro ⟨a, _⟩
      exact absurd a.symm (nI_ne_m1 (by omega))
    · intro z; cases z
  | some q =>
    obtain ⟨qa, qb⟩ := q
    have := hh _ rfl
    constructor
    · rintro ⟨a, b⟩
      have a' := (nI_eq (a := qa) (b := k) (by omega) (by omega)).mp a
      have b' := (nI_eq (a := qb) (b := g) (by omega) (by omega)).mp b
      rw [a', b']
    · intro z; cases z; exact ⟨rfl, rfl⟩
def bI (b : Bool) : Int32 := if b then 1 else 0
theorem rz_b (b : Bool) (σ : Mem) : rz (bI b) σ = some (bI b, σ) := by cases b <;> rfl
/-- what a step of bringing home says -/
def bhF (Y : Yd) (T : Nat → Bool) (k g n : Nat) (D : Dy) (p : Nat) : Bool := anyT Y (pp Y T D p).2.1 && (decide ((pp Y T D p).2.2 = some (k, g)) || bh Y T k g n (pp Y T D p).1)
theorem bh_s (Y : Yd) (T : Nat → Bool) (k g n : Nat) (D : Dy) : bh Y T k g (n + 1) D = anyF (bhF Y T k g n D) 0 (4 * db Y) := rfl
theorem bhx_loop {Y : Yd} (hY : WFY Y) {T : Nat → Bool} (hT : TOk Y T) {D : Dy} (hD : WFD Y D) {y : Int64} (hy : EncX Y D y) {k g n : Nat} (hk : k < db Y) (hg : g < 2) (hn : n < 100) (rc : Mem → Int64 → Int32 → Int32 → Int32 → Option (Int32 × Mem)) (hrc : 0 < n → ∀ (D' : Dy) (y' : Int64) (σ : Mem), WFD Y D' → EncX Y D' y' → InX Y T σ → ∃ σ', rc σ y' (nI k) (nI g) (nI n) = some (bI (bh Y T k g n D'), σ') ∧ InX Y T σ' ∧ KpX σ σ') : ∀ (m b d f1 f2 : Nat) (σ : Mem), 4 * b + d + m = 4 * db Y → b < db Y → d < 4 → db Y ≤ b + f1 → 4 < d + f2 → InX Y T σ → ∃ σ', FX3_bringsHome_26 rc (FX3_bringsHome_11 rc f1) f2 σ y (nI k) (nI g) (nI (n + 1)) (nI b) (nI d) = some (bI (anyF (bhF Y T k g n D) (4 * b + d) m), σ') ∧ InX Y T σ' ∧ KpX σ σ' := by
  have h6 := hY.2.1
  intro m
  induction m with
  | zero => intro b d f1 f2 σ h1 h2; omega
  | succ m ih =>
    intro b d f1 f2 σ hm hb hd hf1 hf2 hI
    obtain ⟨f, rfl⟩ : ∃ f, f2 = f + 1 := ⟨f2 - 1, by omega⟩
    have hpk : (4 * b + d) / 4 = b := by omega
    have hpd : (4 * b + d) % 4 = d := by omega
    obtain ⟨σ1, g1, g2, g3, g4, g5, g6, g7, g8, g9⟩ := gox hY hT hD hI hy hb hd
    have hpp : pp Y T D (4 * b + d) = pushD Y T D b d := by show pushD Y T D ((4 * b + d) / 4) ((4 * b + d) % 4) = _; rw [hpk, hpd]
    -- what comes behind a step that brought nothing
    have nxt_ : ∀ σ2, InX Y T σ2 → KpX σ σ2 → ∃ σ', FX3_bringsHome_26 rc (FX3_bringsHome_11 rc f1) f σ2 y (nI k) (nI g) (nI (n + 1)) (nI b) (nI (d + 1)) = some (bI (anyF (bhF Y T k g n D) (4 * b + d + 1) m), σ') ∧ InX Y T σ' ∧ KpX σ σ' := by
      intro σ2 hI2 hK2
      by_cases hd3 : d + 1 < 4
      · obtain ⟨σ', r1, r2, r3⟩ := ih b (d + 1) f1 f σ2 (by omega) hb hd3 hf1 (by omega) hI2
        exact ⟨σ', r1, r2, kpx_trans hK2 r3⟩
      · obtain ⟨f', rfl⟩ : ∃ f', f = f' + 1 := ⟨f - 1, by omega⟩
        obtain ⟨f0, rfl⟩ : ∃ f0, f1 = f0 + 1 := ⟨f1 - 1, by omega⟩
        have hde : d + 1 = 4 := by omega
        have e1 : FX3_bringsHome_26 rc (FX3_bringsHome_11 rc (f0 + 1)) (f' + 1) σ2 y (nI k) (nI g) (nI (n + 1)) (nI b) (nI (d + 1)) = FX3_bringsHome_11 rc (f0 + 1) σ2 y (nI k) (nI g) (nI (n + 1)) (nI (b + 1)) := by
          show BX3_bringsHome_26 rc _ _ σ2 y _ _ _ _ (nI (d + 1)) = _
          unfold BX3_bringsHome_26
          rw [hde, if_pos (show (4 : Int32) ≤ nI 4 by decide), nm_eq, nI_1]
        rw [e1]
        by_cases hb1 : b + 1 < db Y
        · have e2 : FX3_bringsHome_11 rc (f0 + 1) σ2 y (nI k) (nI g) (nI (n + 1)) (nI (b + 1)) = FX3_bringsHome_26 rc (FX3_bringsHome_11 rc f0) FU σ2 y (nI k) (nI g) (nI (n + 1)) (nI (b + 1)) (nI 0) := by
            show BX3_bringsHome_11 rc (FX3_bringsHome_11 rc f0) σ2 y _ _ _ _ = _
            unfold BX3_bringsHome_11
            rw [hI2.1.2.2.1, if_neg (nI_ge hb1 (by omega))]
            rfl
          rw [e2]
          obtain ⟨σ', r1, r2, r3⟩ := ih (b + 1) 0 f0 FU σ2 (by omega) hb1 (by omega) (by omega) (by show 4 < 0 + 10000000; omega) hI2
          rw [show 4 * (b + 1) + 0 = 4 * b + d + 1 by omega] at r1
          exact ⟨σ', r1, r2, kpx_trans hK2 r3⟩
        · have hm0 : m = 0 := by omega
          subst hm0
          refine ⟨σ2, ?_, hI2, hK2⟩
          show BX3_bringsHome_11 rc (FX3_bringsHome_11 rc f0) σ2 y _ _ _ _ = _
          unfold BX3_bringsHome_11
          rw [hI2.1.2.2.1, if_pos (nI_le (by omega) (by omega))]
          exact rz_b false σ2
    have un : FX3_bringsHome_26 rc (FX3_bringsHome_11 rc f1) (f + 1) σ y (nI k) (nI g) (nI (n + 1)) (nI b) (nI d) = BX3_bringsHome_26 rc (FX3_bringsHome_11 rc f1) (FX3_bringsHome_26 rc (FX3_bringsHome_11 rc f1) f) σ y (nI k) (nI g) (nI (n + 1)) (nI b) (nI d) := rfl
    rw [un]
    unfold BX3_bringsHome_26
    rw [if_neg (show ¬ (4 : Int32) ≤ nI d from nI_ge (b := 4) hd (by decide)), g1, bi_some]
    show ∃ σ', _ = some (bI (bhF Y T k g n D (4 * b + d) || anyF (bhF Y T k g n D) (4 * b + d + 1) m), σ') ∧ _
    have hF : bhF Y T k g n D (4 * b + d) = (anyT Y (pushD Y T D b d).2.1 && (decide ((pushD Y T D b d).2.2 = some (k, g)) || bh Y T k g n (pushD Y T D b d).1)) := by
      unfold bhF
      rw [hpp]
    rw [hF]
    cases ha : anyT Y (pushD Y T D b d).2.1
    · rw [if_neg (show ¬ false = true by decide), if_pos rfl, nm_eq, nI_1]
      exact nxt_ σ1 g2 g3
    · rw [if_pos rfl, if_neg (show ¬ (1 : Int32) = 0 by decide), Bool.true_and]
      have hh := hb_iff (h := (pushD Y T D b d).2.2) (k := k) (g := g) (by omega) (by omega) (fun q hq => by have := g9 q hq; omega)
      rw [← g6, ← g7] at hh
      have s75 : (pushD Y T D b d).2.2 ≠ some (k, g) → ∃ σ', FX3_bringsHome_75 rc (FX3_bringsHome_11 rc f1) (FX3_bringsHome_26 rc (FX3_bringsHome_11 rc f1) f) σ1 y (nI k) (nI g) (nI (n + 1)) (nI b) (nI d) = some (bI (decide ((pushD Y T D b d).2.2 = some (k, g)) || bh Y T k g n (pushD Y T D b d).1 || anyF (bhF Y T k g n D) (4 * b + d + 1) m), σ') ∧ InX Y T σ' ∧ KpX σ σ' := by
        intro hne
        rw [decide_eq_false hne, Bool.false_or]
        unfold FX3_bringsHome_75
        by_cases hn0 : n = 0
        · subst hn0
          rw [if_pos (show nI (0 + 1) ≤ (1 : Int32) by decide), nm_eq, nI_1]
          show ∃ σ', _ = some (bI (false || anyF (bhF Y T k g 0 D) (4 * b + d + 1) m), σ') ∧ _
          rw [Bool.false_or]
          exact nxt_ σ1 g2 g3
        · rw [if_neg (show ¬ nI (n + 1) ≤ (1 : Int32) from nI_ge (a := 1) (by omega) (by omega)), nI_pred]
          obtain ⟨σ2, c1, c2, c3⟩ := hrc (by omega) (pushD Y T D b d).1 (σ1.2 2 6) σ1 g8 g4 g2
          rw [c1, bi_some]
          cases hbh : bh Y T k g n (pushD Y T D b d).1
          · rw [if_pos (show bI false = 0 from rfl), nm_eq, nI_1, Bool.false_or]
            exact nxt_ σ2 c2 (kpx_trans g3 c3)
          · rw [if_neg (show ¬ bI true = 0 by decide), Bool.true_or]
            exact ⟨σ2, rz_b true σ2, c2, kpx_trans g3 c3⟩
      by_cases h8 : σ1.1 2 8 = nI k
      · rw [if_pos h8]
        by_cases h9 : σ1.1 2 9 = nI g
        · rw [if_pos h9, decide_eq_true (hh.mp ⟨h8, h9⟩), Bool.true_or, Bool.true_or]
          exact ⟨σ1, rz_b true σ1, g2, g3⟩
        · rw [if_neg h9]
          exact s75 (fun z => h9 (hh.mpr z).2)
      · rw [if_neg h8]
        exact s75 (fun z => h8 (hh.mpr z).1)
theorem bhx_eq {Y : Yd} (hY : WFY Y) {T : Nat → Bool} (hT : TOk Y T) {k g : Nat} (hk : k < db Y) (hg : g < 2) : ∀ (n N : Nat), n + 1 < N → n < 90 → ∀ (D : Dy) (y : Int64) (σ : Mem), WFD Y D → EncX Y D y → InX Y T σ → ∃ σ', FRX3_bringsHome N σ y (nI k) (nI g) (nI (n + 1)) = some (bI (bh Y T k g (n + 1) D), σ') ∧ InX Y T σ' ∧ KpX σ σ' := by
  have h6 := hY.2.1
  intro n
  induction n with
  | zero =>
    intro N hN _ D y σ hD hy hI
    obtain ⟨N', rfl⟩ : ∃ N', N = N' + 1 := ⟨N - 1, by omega⟩
    obtain ⟨σ', r1, r2, r3⟩ := bhx_loop hY hT hD hy hk hg (n := 0) (by omega) (FRX3_bringsHome N') (fun h => absurd h (Nat.lt_irrefl 0)) (4 * db Y) 0 0 9999999 FU σ (by omega) (by omega) (by omega) (by omega) (by show 4 < 0 + 10000000; omega) hI
    refine ⟨σ', ?_, r2, r3⟩
    rw [bh_s]
    rw [← r1]
    show FX3_bringsHome (FRX3_bringsHome N') σ y _ _ _ = _
    unfold FX3_bringsHome
    rw [if_pos (show (1 : Int32) ≤ nI (0 + 1) by decide)]
    show BX3_bringsHome_11 (FRX3_bringsHome N') (FX3_bringsHome_11 (FRX3_bringsHome N') 9999999) σ y _ _ _ (nI 0) = _
    unfold BX3_bringsHome_11
    rw [hI.1.2.2.1, if_neg (nI_ge (by omega) (by omega))]
    rfl
  | succ n ih =>
    intro N hN hn D y σ hD hy hI
    obtain ⟨N', rfl⟩ : ∃ N', N = N' + 1 := ⟨N - 1, by omega⟩
    obtain ⟨σ', r1, r2, r3⟩ := bhx_loop hY hT hD hy hk hg (n := n + 1) (by omega) (FRX3_bringsHome N') (fun _ D' y' σ hD' hy' hI' => ih N' (by omega) (by omega) D' y' σ hD' hy' hI') (4 * db Y) 0 0 9999999 FU σ (by omega) (by omega) (by omega) (by omega) (by show 4 < 0 + 10000000; omega) hI
    refine ⟨σ', ?_, r2, r3⟩
    rw [bh_s]
    rw [← r1]
    show FX3_bringsHome (FRX3_bringsHome N') σ y _ _ _ = _
    unfold FX3_bringsHome
    rw [if_pos (show (1 : Int32) ≤ nI (n + 1 + 1) from nI_le (a := 1) (by omega) (by omega))]
    show BX3_bringsHome_11 (FRX3_bringsHome N') (FX3_bringsHome_11 (FRX3_bringsHome N') 9999999) σ y _ _ _ (nI 0) = _
    unfold BX3_bringsHome_11
    rw [hI.1.2.2.1, if_neg (nI_ge (by omega) (by omega))]
    rfl
/-- ice on which sand may be put -/
def freD (Y : Yd) (D : Dy) (c : Nat) : Bool := decide (c < dn Y) && dg Y c == 0 && !occD Y D c
def freN (Y : Yd) (D : Dy) (n c : Nat) : Bool := decide (c < dn Y) && dg Y c == 0 && !occN D n c
theorem fre_loop {Y : Yd} (hY : WFY Y) {D : Dy} (hD : WFD Y D) {σ : Mem} (hX : XS Y σ) {y : Int64} (hy : EncX Y D y) : ∀ (m i fuel : Nat) (s : Int64), i + m = db Y → m < fuel → (∀ q, bit64 s q = freN Y D i q) → ∃ o, FX3_freeIce_11 fuel σ y s (nI i) = some (o, σ) ∧ ∀ q, bit64 o q = freD Y D q := by
  have h6 := hY.2.1
  intro m
  induction m with
  | zero =>
    intro i fuel s hi hf hs
    obtain ⟨f, rfl⟩ : ∃ f, fuel = f + 1 := ⟨fuel - 1, by omega⟩
    refine ⟨s, ?_, fun q => ?_⟩
    · show BX3_freeIce_11 (FX3_freeIce_11 f) σ y s (nI i) = _
      unfold BX3_freeIce_11
      rw [hX.2.2.1, if_pos (nI_le (by omega) (by omega))]
    · rw [hs]
      unfold freN freD
      rw [show i = db Y by omega, occN_all hY hD]
  | succ m ih =>
    intro i fuel s hi hf hs
    obtain ⟨f, rfl⟩ : ∃ f, fuel = f + 1 := ⟨fuel - 1, by omega⟩
    have hlt := wfd_lt hY hD (show i < db Y by omega)
    have un : FX3_freeIce_11 (f + 1) σ y s (nI i) = if D.1 i < 36 then FX3_freeIce_11 f σ y (s &&& (((1 : Int64) <<< ((nI (D.1 i)).toInt64 &&& 63)) ^^^ (-1 : Int64))) (nI (i + 1)) else FX3_freeIce_11 f σ y s (nI (i + 1)) := by
      show BX3_freeIce_11 (FX3_freeIce_11 f) σ y s (nI i) = _
      unfold BX3_freeIce_11
      rw [hX.2.2.1, if_neg (nI_ge (by omega) (by omega)), pof_eq hY hD hy (by omega), bi_some]
      by_cases e : D.1 i < 36
      · rw [if_neg (show ¬ (36 : Int32) ≤ nI (D.1 i) from nI_ge (b := 36) (by omega) (by omega)), if_pos e, nm_eq, nm_eq, nI_1]
      · rw [if_pos (show (36 : Int32) ≤ nI (D.1 i) from nI_le (a := 36) (by omega) (by omega)), if_neg e, nm_eq, nI_1]
    rw [un]
    by_cases e : D.1 i < 36
    · rw [if_pos e]
      refine ih (i + 1) f _ (by omega) (by omega) fun q => ?_
      have hs' := hs q
      unfold freN at hs' ⊢
      rw [w_and, w_xor, w_one (by omega), w_m1, hs', occN_s, decide_eq_true e, Bool.and_true]
      by_cases z : q = D.1 i
      · subst z
        rw [decide_eq_true rfl, decide_eq_true (show D.1 i < 64 by omega)]
        simp
      · rw [decide_eq_false z, beq_false_of_ne (fun h => z h.symm), Bool.or_false]
        by_cases z2 : q < 64
        · rw [decide_eq_true z2]; simp
        · have := dn_le hY
          rw [show decide (q < dn Y) = false from decide_eq_false (by omega)]; simp
    · rw [if_neg e]
      refine ih (i + 1) f s (by omega) (by omega) fun q => ?_
      rw [hs q]
      unfold freN
      rw [occN_s, decide_eq_false e, Bool.and_false, Bool.or_false]
theorem fre_eq {Y : Yd} (hY : WFY Y) {D : Dy} (hD : WFD Y D) {σ : Mem} (hX : XS Y σ) {y : Int64} (hy : EncX Y D y) : ∃ o, FX3_freeIce σ y = some (o, σ) ∧ ∀ q, bit64 o q = freD Y D q := by
  have h6 := hY.2.1
  unfold FX3_freeIce
  rw [nm_eq]
  refine fre_loop hY hD hX hy (db Y) 0 FU _ (Nat.zero_add _) (by show _ < 10000000; omega) (fun q => ?_)
  rw [hX.2.2.2.2.2.2.2.2.2.1 q]
  unfold freN occN
  simp
def finF (f : Nat → Bool) : Nat → Nat → Option Nat
  | _, 0 => none
  | p, m + 1 => if f p then some p else finF f (p + 1) m
/-- the first cell of sand by which it is done -/
def sandF (Y : Yd) (D : Dy) (k g n c : Nat) : Bool := freD Y D c && bh Y (sg c) k g n D
theorem sg_ok {Y : Yd} {D : Dy} {c : Nat} (h : freD Y D c = true) : TOk Y (sg c) := by
  unfold freD at h
  simp only [Bool.and_eq_true, decide_eq_true_eq, beq_iff_eq] at h
  intro i hi
  unfold sg at hi
  rw [decide_eq_true_eq] at hi
  rw [hi]; exact h.1
def fndI (o : Option Nat) : Int32 := match o with
  | none => -9
  | some _ => 1
theorem fcx_loop {Y : Yd} (hY : WFY Y) {D : Dy} (hD : WFD Y D) {y : Int64} (hy : EncX Y D y) {k g n : Nat} (hk : k < db Y) (hg : g < 2) (hn : n < 10) {fr : Int64} (hfr : ∀ q, bit64 fr q = freD Y D q) : ∀ (m c fuel : Nat) (σ : Mem), c + m = dn Y → m + 1 < fuel → XS Y σ → XLd Y σ → ∃ σ', FX3_fewestCells_42 fuel σ y (nI k) (nI g) (nI (n + 1)) fr (-9) (nI c) = some (fndI (finF (sandF Y D k g (n + 1)) c m), σ') ∧ XS Y σ' ∧ XLd Y σ' ∧ σ'.2 2 5 = 0 ∧ (∀ o, o ≠ 2 → o ≠ 22 → o ≠ 6 → σ'.1 o = σ.1 o) ∧ (∀ o, o ≠ 2 → σ'.2 o = σ.2 o) ∧ ∀ c', finF (sandF Y D k g (n + 1)) c m = some c' → σ'.1 6 2 = nI c' := by
  have h36 := dn_le hY
  intro m
  induction m with
  | zero =>
    intro c fuel σ hc hf hX hL
    obtain ⟨f, rfl⟩ : ∃ f, fuel = f + 1 := ⟨fuel - 1, by omega⟩
    refine ⟨setL σ 2 5 0, ?_, xs_cong rfl rfl rfl rfl rfl (setL_ne2 (by decide)) hX, hL, rfl, fun _ _ _ _ => rfl, fun o ho => setL_ne2 ho, fun c' h => by cases h⟩
    show BX3_fewestCells_42 (FX3_fewestCells_42 f) σ y _ _ _ fr (-9) (nI c) = _
    unfold BX3_fewestCells_42
    rw [cel_eq hX, bi_some, if_pos (nI_le (by omega) (by omega)), nm_eq]
    rfl
  | succ m ih =>
    intro c fuel σ hc hf hX hL
    obtain ⟨f, rfl⟩ : ∃ f, fuel = f + 1 := ⟨fuel - 1, by omega⟩
    have hX1 : XS Y (setL σ 2 5 ((1 : Int64) <<< ((nI c).toInt64 &&& 63))) := xs_cong rfl rfl rfl rfl rfl (setL_ne2 (by decide)) hX
    have hL1 : XLd Y (setL σ 2 5 ((1 : Int64) <<< ((nI c).toInt64 &&& 63))) := hL
    have un : FX3_fewestCells_42 (f + 1) σ y (nI k) (nI g) (nI (n + 1)) fr (-9) (nI c) = BX3_fewestCells_42 (FX3_fewestCells_42 f) σ y (nI k) (nI g) (nI (n + 1)) fr (-9) (nI c) := rfl
    rw [un]
    unfold BX3_fewestCells_42
    rw [cel_eq hX, bi_some, if_neg (nI_ge (by omega) (by omega)), if_neg (show ¬ (36 : Int32) ≤ nI c from nI_ge (b := 36) (by omega) (by omega)), if_pos rfl, nm_eq]
    unfold finF
    cases hfc : freD Y D c
    · rw [has_f fr (by omega) ((hfr c).trans hfc), bi_some, if_pos rfl, nm_eq, nI_1]
      have e : sandF Y D k g (n + 1) c = false := by unfold sandF; rw [hfc, Bool.false_and]
      rw [e, if_neg (by decide)]
      obtain ⟨σ', r1, r2, r3, r4, r5, r6, r7⟩ := ih (c + 1) f _ (by omega) (by omega) hX1 hL1
      exact ⟨σ', r1, r2, r3, r4, r5, fun o ho => by rw [r6 o ho, setL_ne2 ho], r7⟩
    · rw [has_t fr (by omega) ((hfr c).trans hfc), bi_some, if_neg (show ¬ (1 : Int32) = 0 by decide)]
      have hI : InX Y (sg c) (setL σ 2 5 ((1 : Int64) <<< ((nI c).toInt64 &&& 63))) := ⟨hX1, hL1, fun i => w_one (by omega) i⟩
      obtain ⟨σ1, b1, b2, b3⟩ := bhx_eq hY (sg_ok hfc) hk hg n 14 (by omega) (by omega) D y _ hD hy hI
      rw [show FTX3_bringsHome (setL σ 2 5 ((1 : Int64) <<< ((nI c).toInt64 &&& 63))) y (nI k) (nI g) (nI (n + 1)) = _ from b1, bi_some]
      cases hbh : bh Y (sg c) k g (n + 1) D
      · rw [if_pos (show bI false = 0 from rfl), nm_eq, nI_1]
        have e : sandF Y D k g (n + 1) c = false := by unfold sandF; rw [hbh, Bool.and_false]
        rw [e, if_neg (by decide)]
        obtain ⟨σ', r1, r2, r3, r4, r5, r6, r7⟩ := ih (c + 1) f σ1 (by omega) (by omega) b2.1 b2.2.1
        exact ⟨σ', r1, r2, r3, r4, fun o h2 h22 h6 => by rw [r5 o h2 h22 h6, b3.1 o h2 h22]; rfl, fun o ho => by rw [r6 o ho, b3.2 o ho, setL_ne2 ho], r7⟩
      · rw [if_neg (show ¬ bI true = 0 by decide), nm_eq, nm_eq, nI_1]
        have e : sandF Y D k g (n + 1) c = true := by unfold sandF; rw [hbh, hfc]; rfl
        rw [e, if_pos rfl]
        obtain ⟨f', rfl⟩ : ∃ f', f = f' + 1 := ⟨f - 1, by omega⟩
        have hX2 : XS Y (setI σ1 6 2 (nI c)) := xs_cong (setI_ne1 (by decide)) (setI_ne1 (by decide)) (setI_ne1 (by decide)) (setI_ne1 (by decide)) (setI_ne1 (by decide)) rfl b2.1
        have hX3 : XS Y (setL (setI σ1 6 2 (nI c)) 2 5 0) := xs_cong rfl rfl rfl rfl rfl (setL_ne2 (by decide)) hX2
        refine ⟨setL (setI σ1 6 2 (nI c)) 2 5 0, ?_, hX3, b2.2.1, rfl, fun o h2 h22 h6 => ?_, fun o ho => ?_, fun c' h => ?_⟩
        · show BX3_fewestCells_42 (FX3_fewestCells_42 f') (setI σ1 6 2 (nI c)) y _ _ _ fr 1 (nI (c + 1)) = _
          unfold BX3_fewestCells_42
          rw [cel_eq hX2, bi_some]
          by_cases q1 : nI (dn Y) ≤ nI (c + 1)
          · rw [if_pos q1, nm_eq]; rfl
          · rw [if_neg q1]
            by_cases q2 : (36 : Int32) ≤ nI (c + 1)
            · rw [if_pos q2, nm_eq]; rfl
            · rw [if_neg q2, if_neg (show ¬ (1 : Int32) = -9 by decide), nm_eq]; rfl
        · show (setI σ1 6 2 (nI c)).1 o = _
          rw [setI_ne1 h6, b3.1 o h2 h22]; rfl
        · rw [setL_ne2 ho]
          show σ1.2 o = _
          rw [b3.2 o ho, setL_ne2 ho]
        · cases h
          show (setI σ1 6 2 (nI c)).1 6 2 = _
          rw [setI_s1]; simp [upd]

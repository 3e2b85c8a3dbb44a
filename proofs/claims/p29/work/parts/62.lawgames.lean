/-! ===== the law's copies, outcomes, games ===== -/
theorem al_in {R : Type} {N n c : Nat} (h : n + c ≤ N) (f : Nat → Option R) : al N n c f = f (n + c) := if_pos h
theorem copied_loop {l : Nat → Int32} : ∀ (m i fuel n : Nat) (A : Nat → Int32), i + m = 6 → m < fuel → (∀ k, k < i → A k = l k) → ∃ A', FL_copied_7 l fuel n A (nI i) = some A' ∧ ∀ k, k < 6 → A' k = l k := by
  intro m
  induction m with
  | zero =>
    intro i fuel n A hi hf hA
    obtain ⟨f, rfl⟩ : ∃ f, fuel = f + 1 := ⟨fuel - 1, by omega⟩
    refine ⟨A, ?_, fun k hk => hA k (by omega)⟩
    show BL_copied_7 l (FL_copied_7 l f) n A (nI i) = _
    unfold BL_copied_7
    rw [if_pos (show (6 : Int32) ≤ nI i from nI_le (a := 6) (by omega) (by omega))]
  | succ m ih =>
    intro i fuel n A hi hf hA
    obtain ⟨f, rfl⟩ : ∃ f, fuel = f + 1 := ⟨fuel - 1, by omega⟩
    have un : FL_copied_7 l (f + 1) n A (nI i) = FL_copied_7 l f n (upd A i (l i)) (nI (i + 1)) := by
      show BL_copied_7 l (FL_copied_7 l f) n A (nI i) = _
      unfold BL_copied_7
      rw [if_neg (show ¬ (6 : Int32) ≤ nI i from nI_ge (b := 6) (by omega) (by decide)), rd_in (by omega) (by decide), stA_in (by omega) (by decide), nm_eq, nI_1]
    rw [un]
    refine ih (i + 1) f n _ (by omega) (by omega) (fun k hk => ?_)
    by_cases e : k = i
    · subst e; rw [upd_eq]
    · rw [upd_ne e]; exact hA k (by omega)
theorem copied_q (l : Nat → Int32) : ∃ l', FL_copied l 0 = some l' ∧ ∀ k, k < 6 → l' k = l k := by
  unfold FL_copied
  rw [al_in (by decide)]
  exact copied_loop 6 0 FU 1 zI rfl (by show 6 < 10000000; omega) (fun k hk => by omega)
theorem encM_l {Y : Yd} {D : Dy} {l l' : Nat → Int32} {f : Int64} (h : EncM Y D l f) (hl : ∀ k, k < 6 → l' k = l k) : EncM Y D l' f := ⟨fun k hk => by rw [hl k hk]; exact h.1 k hk, h.2⟩
/-- a push of a copy -/
theorem cp_push {Y : Yd} (hY : WFY Y) {T : Nat → Bool} (hT : TOk Y T) {yy gg : Nat → Int32} (hL : LawY Y yy gg) {D : Dy} (hD : WFD Y D) {ll : Nat → Int32} {s : Nat → Int64} (hE : EncM Y D ll (s 0)) (h2 : ∀ i, bit64 (s 2) i = T i) {p : Nat} (hp : p < 4 * db Y) : ∃ (o l' : Nat → Int32) (s' : Nat → Int64), FL_copied ll 0 = some o ∧ FL_push yy gg o s (nI p / (4 : Int32)) (nI p - nI p / (4 : Int32) * (4 : Int32)) = some (if anyT Y (pp Y T D p).2.1 then hoI (pp Y T D p).2.2 else -1, l', s') ∧ LQ Y T (pp Y T D p).1 (pp Y T D p).2.1 l' s' := by
  have h6 := hY.2.1
  obtain ⟨o, c1, c2⟩ := copied_q ll
  obtain ⟨l', s', e1, e2⟩ := push_q hY hT hL hD (encM_l hE c2) h2 (k := p / 4) (d := p % 4) (by omega) (by omega)
  refine ⟨o, l', s', c1, ?_, e2⟩
  rw [m4 (by omega), d4 (by omega)]
  exact e1
theorem z0 (v : Int64) : (vp_updL zL 0 v) 0 = v := uL_eq
theorem z2 (v : Int64) (i : Nat) : bit64 ((vp_updL zL 0 v) 2) i = T0 i := by rw [uL_ne (by decide)]; exact w_0 i
/-- what a push comes to for a boy -/
def ocI (Y : Yd) (boy : Nat) (D : Dy) (p : Nat) : Int32 := if gsF Y D p then (if hgt (pp Y T0 D p) = some boy then 1 else if hgt (pp Y T0 D p) = none then 0 else -1) else -2
theorem ho_bits {h : Option (Nat × Nat)} (hh : ∀ g, h = some g → g.2 < 2) {boy : Nat} (hb : boy < 2) : 0 ≤ hoI h ∧ ((((hoI h) >>> (nI boy &&& 31)) &&& (1 : Int32)) = (1 : Int32) ↔ h.map (fun g => g.2) = some boy) ∧ ((((hoI h) >>> (((1 : Int32) - nI boy) &&& 31)) &&& (1 : Int32)) = (1 : Int32) ↔ h.map (fun g => g.2) = some (1 - boy)) := by
  cases h with
  | none =>
    exact (by decide +kernel : ∀ boy, boy < 2 → 0 ≤ (0 : Int32) ∧ ((((0 : Int32)) >>> (nI boy &&& 31)) &&& (1 : Int32) = (1 : Int32) ↔ (none : Option Nat) = some boy) ∧ ((((0 : Int32)) >>> (((1 : Int32) - nI boy) &&& 31)) &&& (1 : Int32) = (1 : Int32) ↔ (none : Option Nat) = some (1 - boy))) boy hb
  | some g =>
    exact (by decide +kernel : ∀ g, g < 2 → ∀ boy, boy < 2 → 0 ≤ nI (2 ^ g) ∧ (((nI (2 ^ g)) >>> (nI boy &&& 31)) &&& (1 : Int32) = (1 : Int32) ↔ some g = some boy) ∧ (((nI (2 ^ g)) >>> (((1 : Int32) - nI boy) &&& 31)) &&& (1 : Int32) = (1 : Int32) ↔ some g = some (1 - boy))) g.2 (hh g rfl) boy hb
theorem oc_eq {Y : Yd} (hY : WFY Y) {yy gg : Nat → Int32} (hL : LawY Y yy gg) {D : Dy} (hD : WFD Y D) {ll : Nat → Int32} {a3 : Int64} (hE : EncM Y D ll a3) {p boy : Nat} (hp : p < 4 * db Y) (hb : boy < 2) (own : Int32) : FL_outcome yy gg ll 0 a3 (nI p) (nI boy) own = some (ocI Y boy D p) := by
  have h6 := hY.2.1
  obtain ⟨o, l', s', c1, c2, c3⟩ := cp_push hY (t0_ok Y) hL hD (s := vp_updL zL 0 a3) (by rw [z0]; exact hE) (z2 a3) hp
  have hP := pu_ok hY (T := T0) hD (k := p / 4) (d := p % 4) (by omega)
  obtain ⟨b1, b2, b3⟩ := ho_bits (h := (pp Y T0 D p).2.2) (fun g hg => (hP.2.2 g hg).2) hb
  unfold FL_outcome
  rw [c1, bn_some, al_in (by decide), al_in (by decide), stB0 (by decide) (by decide), dzI_ok (by decide), dzI_ok (by decide), c2, bn_some]
  unfold ocI gsF
  cases hg : anyT Y (pp Y T0 D p).2.1
  · rw [if_neg (show ¬ false = true by decide), if_neg (show ¬ 0 ≤ (-1 : Int32) by decide), if_neg (show ¬ false = true by decide)]
  · rw [if_pos rfl, if_pos b1, if_pos rfl]
    have f100 : ∀ v : Int32, FL_outcome_100 yy gg ll (0 + 1 + 1) v = some (if v = 0 then 0 else -1) := fun v => by
      unfold FL_outcome_100
      by_cases h : v = 0
      · rw [if_pos h, if_pos h]
      · rw [if_neg h, if_neg h]
    have f59 : ∀ x : Int32, (x = 0 ∨ x = 1) → FL_outcome_59 yy gg ll (0 + 1 + 1) (nI boy) own (hoI (pp Y T0 D p).2.2) x = some (if x = 1 ∧ (¬ own = 0 ∨ ¬ hgt (pp Y T0 D p) = some (1 - boy)) then 1 else if hgt (pp Y T0 D p) = some (1 - boy) then -1 else 0) := by
      intro x hx
      unfold FL_outcome_59
      have f79 : ∀ z : Int32, (z = 0 ∨ z = 1) → FL_outcome_79 yy gg ll (0 + 1 + 1) own x z = some (if x = 1 ∧ (¬ own = 0 ∨ z = 0) then 1 else if z = 0 then 0 else -1) := by
        intro z hz
        unfold FL_outcome_79
        rw [f100]
        rcases hx with rfl | rfl
        · rw [if_pos rfl, if_neg (show ¬ ((0 : Int32) = 1 ∧ (¬ own = 0 ∨ z = 0)) from fun q => absurd q.1 (by decide))]
        · rw [if_neg (show ¬ (1 : Int32) = 0 by decide)]
          by_cases ho : own = 0
          · rw [if_pos ho]
            rcases hz with rfl | rfl
            · rw [if_pos rfl, if_pos ⟨rfl, .inr rfl⟩]
            · rw [if_neg (show ¬ ((1 : Int32) = 1 ∧ (¬ own = 0 ∨ (1 : Int32) = 0)) from fun q => q.2.elim (fun a => a ho) (by decide)), if_neg (show ¬ (1 : Int32) = 0 by decide)]
          · rw [if_neg ho, if_pos ⟨rfl, .inl ho⟩]
      by_cases h : hgt (pp Y T0 D p) = some (1 - boy)
      · rw [if_pos (b3.mpr h), f79 1 (.inr rfl), if_pos h, if_neg (show ¬ (1 : Int32) = 0 by decide)]
        by_cases q : x = 1 ∧ (¬ own = 0 ∨ ¬ hgt (pp Y T0 D p) = some (1 - boy))
        · rw [if_pos q, if_pos ⟨q.1, q.2.imp id (fun a => absurd h a)⟩]
        · rw [if_neg q, if_neg (fun a => q ⟨a.1, a.2.imp id (fun b => absurd b (by decide))⟩)]
      · rw [if_neg (fun z => h (b3.mp z)), f79 0 (.inl rfl), if_neg h, if_pos rfl]
        by_cases q : x = 1 ∧ (¬ own = 0 ∨ ¬ hgt (pp Y T0 D p) = some (1 - boy))
        · rw [if_pos q, if_pos ⟨q.1, .inr rfl⟩]
        · rw [if_neg q, if_neg (fun a => q ⟨a.1, .inr h⟩)]
    by_cases h1 : hgt (pp Y T0 D p) = some boy
    · have hne : ¬ hgt (pp Y T0 D p) = some (1 - boy) := fun z => by rw [h1] at z; have := Option.some.inj z; omega
      rw [if_pos (b2.mpr h1), f59 1 (.inr rfl), if_pos h1, if_pos ⟨rfl, .inr hne⟩]
    · rw [if_neg (fun z => h1 (b2.mp z)), f59 0 (.inl rfl), if_neg h1, if_neg (show ¬ ((0 : Int32) = 1 ∧ (¬ own = 0 ∨ ¬ hgt (pp Y T0 D p) = some (1 - boy))) from fun q => absurd q.1 (by decide))]
      by_cases h2 : hgt (pp Y T0 D p) = none
      · rw [if_pos h2, if_neg (fun z => by rw [h2] at z; cases z)]
      · rw [if_neg h2, if_pos]
        obtain ⟨g, hg2⟩ := Option.ne_none_iff_exists'.mp h2
        have hlt : g < 2 := by
          unfold hgt at hg2
          cases hr : (pp Y T0 D p).2.2 with
          | none => rw [hr] at hg2; cases hg2
          | some q => rw [hr] at hg2; cases hg2; exact (hP.2.2 q hr).2
        rw [hg2] at h1 ⊢
        have : g ≠ boy := fun z => h1 (by rw [z])
        congr 1
        omega
theorem oc_1 {Y : Yd} {boy : Nat} {D : Dy} {p : Nat} : ocI Y boy D p = 1 ↔ wpF Y boy 0 D p = true := by
  unfold ocI wpF vlP vl
  cases gsF Y D p
  · rw [if_neg (show ¬ false = true by decide), Bool.false_and]; decide
  · rw [if_pos rfl, Bool.true_and, Bool.and_false, Bool.or_false, decide_eq_true_eq]
    by_cases h : hgt (pp Y T0 D p) = some boy
    · rw [if_pos h]; exact ⟨fun _ => h, fun _ => rfl⟩
    · rw [if_neg h]
      by_cases h2 : hgt (pp Y T0 D p) = none
      · rw [if_pos h2]; exact ⟨fun z => absurd z (by decide), fun z => absurd z h⟩
      · rw [if_neg h2]; exact ⟨fun z => absurd z (by decide), fun z => absurd z h⟩
theorem wins_loop {Y : Yd} (hY : WFY Y) {yy gg : Nat → Int32} (hL : LawY Y yy gg) {D : Dy} (hD : WFD Y D) {ll A3 : Nat → Int32} {A4 : Nat → Int64} (hE : EncM Y D A3 (A4 0)) {boy : Nat} (hb : boy < 2) : ∀ (m i fuel n : Nat) (w : Bool), i + m = 4 * db Y → m < fuel → n + 2 * m ≤ 60 → FL_wins_40 yy gg ll fuel n A3 A4 (nI boy) (bI w) (nI i) = some (bI (w || anyF (wpF Y boy 0 D) i m)) := by
  have h6 := hY.2.1
  intro m
  induction m with
  | zero =>
    intro i fuel n w hi hf hn
    obtain ⟨f, rfl⟩ : ∃ f, fuel = f + 1 := ⟨fuel - 1, by omega⟩
    show BL_wins_40 yy gg ll (FL_wins_40 yy gg ll f) n A3 A4 (nI boy) (bI w) (nI i) = _
    unfold BL_wins_40
    rw [rd2 (by decide) (by decide), hL.2.2.1, show (4 : Int32) * nI (db Y) = nI (4 * db Y) by rw [show (4 : Int32) = nI 4 from rfl, pk_mul], if_pos (nI_le (by omega) (by omega))]
    show _ = some (bI (w || false))
    rw [Bool.or_false]
  | succ m ih =>
    intro i fuel n w hi hf hn
    obtain ⟨f, rfl⟩ : ∃ f, fuel = f + 1 := ⟨fuel - 1, by omega⟩
    show BL_wins_40 yy gg ll (FL_wins_40 yy gg ll f) n A3 A4 (nI boy) (bI w) (nI i) = _
    unfold BL_wins_40
    rw [rd2 (by decide) (by decide), hL.2.2.1, show (4 : Int32) * nI (db Y) = nI (4 * db Y) by rw [show (4 : Int32) = nI 4 from rfl, pk_mul], if_neg (nI_ge (by omega) (by omega))]
    unfold anyF
    cases w
    · rw [if_pos (show bI false = 0 from rfl), rd0 (by decide) (by decide), al_in (by omega), oc_eq hY hL hD hE (by omega) hb, bn_some, nm_eq, nm_eq, nI_1, Bool.false_or]
      have k1 := ih (i + 1) f (n + 2) true (by omega) (by omega) (by omega)
      have k0 := ih (i + 1) f (n + 2) false (by omega) (by omega) (by omega)
      by_cases h : ocI Y boy D i = 1
      · rw [if_pos h, oc_1.mp h]; exact k1
      · rw [if_neg h, show wpF Y boy 0 D i = false by cases hq : wpF Y boy 0 D i; rfl; exact absurd (oc_1.mpr hq) h, Bool.false_or]
        exact k0
    · rw [if_neg (show ¬ bI true = 0 by decide), nm_eq, nI_1]
      have k1 := ih (i + 1) f n true (by omega) (by omega) (by omega)
      exact k1
theorem wins_q {Y : Yd} (hY : WFY Y) (h3 : db Y ≤ 3) {yy gg : Nat → Int32} (hL : LawY Y yy gg) {D : Dy} (hD : WFD Y D) {ll : Nat → Int32} {a3 : Int64} (hE : EncM Y D ll a3) {p boy : Nat} (hp : p < 4 * db Y) (hb : boy < 2) : FL_wins yy gg ll 0 a3 (nI p) (nI boy) = some (bI (vl Y boy 1 true (pp Y T0 D p).1)) := by
  obtain ⟨o, l', s', c1, c2, c3⟩ := cp_push hY (t0_ok Y) hL hD (s := vp_updL zL 0 a3) (by rw [z0]; exact hE) (z2 a3) hp
  have hP := pu_ok hY (T := T0) hD (k := p / 4) (d := p % 4) (by omega)
  unfold FL_wins
  rw [c1, bn_some, al_in (by decide), al_in (by decide), stB0 (by decide) (by decide), dzI_ok (by decide), dzI_ok (by decide), c2, bn_some]
  have := wins_loop hY hL hP.1 (ll := ll) c3.1 hb (4 * db Y) 0 FU (0 + 1 + 1) false (by omega) (by show _ < 10000000; omega) (by omega)
  rw [vl_t]
  rw [Bool.false_or] at this
  exact this

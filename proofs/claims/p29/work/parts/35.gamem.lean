/-! ===== games: the reference's levels ===== -/
def own (l : Nat) : Bool := decide (l % 2 = 0)
theorem own_s (l : Nat) : own (l + 1) = !own l := by
  unfold own
  by_cases h : l % 2 = 0
  · rw [decide_eq_true h, decide_eq_false (by omega)]; rfl
  · rw [decide_eq_false h, decide_eq_true (by omega)]; rfl
theorem nar_b (b : Bool) : vp_nar .boolean (bI b) = bI b := by cases b <;> decide +kernel
theorem bI_inj {a b : Bool} : bI a = bI b ↔ a = b := by cases a <;> cases b <;> decide
def lrn (σ : Mem) (l : Nat) (w : Bool) : Mem := if w = own l then setI (setI σ 23 l (bI w)) 24 l 1 else σ
def ent (σ : Mem) (l : Nat) : Mem := setI (setI (setI (setI (setI (heldM (setI σ 0 41 (nI l)) l) 20 l 0) 21 l 0) 22 l 0) 23 l (bI (!own l))) 24 l 0
def GmS (Y : Yd) (τ0 : Mem) (n boy : Nat) (τ : Mem) : Prop := InM Y T0 τ0 τ ∧ τ.1 0 42 = nI n ∧ τ.1 0 43 = nI boy
def Lv (τ : Mem) (l np : Nat) (had psd cm dc : Bool) : Prop := τ.1 20 l = nI np ∧ τ.1 21 l = bI had ∧ τ.1 22 l = bI psd ∧ τ.1 23 l = bI cm ∧ τ.1 24 l = bI dc
def LoS (l : Nat) (τ τ' : Mem) : Prop := (∀ o, 20 ≤ o → o ≤ 24 → ∀ j, j < l → τ'.1 o j = τ.1 o j) ∧ (∀ j, j < 6 * l → τ'.1 8 j = τ.1 8 j) ∧ ∀ j, j < l → τ'.2 9 j = τ.2 9 j
theorem los_rfl (l : Nat) (τ : Mem) : LoS l τ τ := ⟨fun _ _ _ _ _ => rfl, fun _ _ => rfl, fun _ _ => rfl⟩
theorem los_trans {l : Nat} {a b c : Mem} (h : LoS l a b) (h' : LoS l b c) : LoS l a c := ⟨fun o h1 h2 j hj => (h'.1 o h1 h2 j hj).trans (h.1 o h1 h2 j hj), fun j hj => (h'.2.1 j hj).trans (h.2.1 j hj), fun j hj => (h'.2.2 j hj).trans (h.2.2 j hj)⟩
theorem los_mono {l l' : Nat} {a b : Mem} (hl : l ≤ l') (h : LoS l' a b) : LoS l a b := ⟨fun o h1 h2 j hj => h.1 o h1 h2 j (by omega), fun j hj => h.2.1 j (by omega), fun j hj => h.2.2 j (by omega)⟩
theorem los_lv {l : Nat} {a b : Mem} (h : LoS (l + 1) a b) {np : Nat} {had psd cm dc : Bool} (hv : Lv a l np had psd cm dc) : Lv b l np had psd cm dc :=
  ⟨(h.1 20 (by decide) (by decide) l (by omega)).trans hv.1, (h.1 21 (by decide) (by decide) l (by omega)).trans hv.2.1, (h.1 22 (by decide) (by decide) l (by omega)).trans hv.2.2.1, (h.1 23 (by decide) (by decide) l (by omega)).trans hv.2.2.2.1, (h.1 24 (by decide) (by decide) l (by omega)).trans hv.2.2.2.2⟩
theorem los_held {Y : Yd} {D : Dy} {l : Nat} {a b : Mem} (h : LoS (l + 1) a b) (hH : Held Y D l a) : Held Y D l b := by
  refine ⟨fun k hk => ?_, fun i => ?_⟩
  · show b.1 8 (6 * l + k) = _
    rw [h.2.1 (6 * l + k) (by omega)]
    exact hH.1 k hk
  · rw [h.2.2 l (by omega)]
    exact hH.2 i
theorem los_sl {Y : Yd} {r : PR} {l : Nat} {τ τ' : Mem} (h : SlM Y r τ τ') : LoS l τ τ' := ⟨fun o h1 h2 j _ => by rw [h.1 o (by omega) (by omega)], fun j _ => by rw [h.1 8 (by decide) (by decide)], fun j _ => by rw [h.2.2.1 9 (by decide)]⟩
theorem los_given (l q : Nat) (τ : Mem) : LoS l τ (givenM τ q) := ⟨fun o h1 h2 j _ => by show (setA τ 4 _).1 o j = _; rw [setA_ne1 (by omega)], fun j _ => rfl, fun j _ => rfl⟩
theorem los_setI {l o k : Nat} {v : Int32} {τ : Mem} (h : (20 ≤ o ∧ o ≤ 24 ∧ l ≤ k) ∨ o = 0) : LoS l τ (setI τ o k v) := by
  refine ⟨fun q h1 h2 j hj => ?_, fun j _ => by rw [setI_ne1 (by omega)], fun j _ => rfl⟩
  by_cases e : q = o
  · subst e
    rw [setI_s1]
    simp only [upd]
    rw [if_neg (by omega)]
  · rw [setI_ne1 e]
theorem los_held' {l : Nat} {τ : Mem} : LoS l τ (heldM τ l) := by
  refine ⟨fun q h1 h2 j hj => by show (setA τ 8 _).1 q j = _; rw [setA_ne1 (by omega)], fun j hj => ?_, fun j hj => ?_⟩
  · show (if 6 * l + 0 ≤ j ∧ j < 6 * l + 6 then _ else τ.1 8 j) = _
    rw [if_neg (by omega)]
  · show vp_updL (τ.2 9) l (τ.2 0 8) j = _
    simp only [vp_updL]
    rw [if_neg (by omega)]
theorem gm_setI {Y : Yd} {τ0 : Mem} {n boy : Nat} {τ : Mem} (h : GmS Y τ0 n boy τ) {o k : Nat} {v : Int32} (ho : 20 ≤ o ∧ o ≤ 24) : GmS Y τ0 n boy (setI τ o k v) := by
  have hf : FrM τ (setI τ o k v) := frm_setI (by omega)
  exact ⟨⟨frm_ms hf h.1.1, h.1.2.1, frm_trans h.1.2.2 hf⟩, by rw [setI_ne1 (by omega)]; exact h.2.1, by rw [setI_ne1 (by omega)]; exact h.2.2⟩
theorem gm_41 {Y : Yd} {τ0 : Mem} {n boy : Nat} {τ : Mem} (h : GmS Y τ0 n boy τ) {v : Int32} : GmS Y τ0 n boy (setI τ 0 41 v) := by
  have hf : FrM τ (setI τ 0 41 v) := frm_setI0 (by omega)
  exact ⟨⟨frm_ms hf h.1.1, h.1.2.1, frm_trans h.1.2.2 hf⟩, h.2.1, h.2.2⟩
theorem gm_given {Y : Yd} {τ0 : Mem} {n boy : Nat} {τ : Mem} (h : GmS Y τ0 n boy τ) (l : Nat) : GmS Y τ0 n boy (givenM τ l) := ⟨inm_given h.1 l, h.2.1, h.2.2⟩
theorem gm_held {Y : Yd} {τ0 : Mem} {n boy : Nat} {τ : Mem} (h : GmS Y τ0 n boy τ) (l : Nat) : GmS Y τ0 n boy (heldM τ l) := ⟨inm_held h.1 l, h.2.1, h.2.2⟩
theorem gm_sl {Y : Yd} {τ0 : Mem} {n boy : Nat} {τ τ' : Mem} {r : PR} (h : GmS Y τ0 n boy τ) (hS : SlM Y r τ τ') : GmS Y τ0 n boy τ' := ⟨inm_sl h.1 hS, by rw [hS.2.1 42 (by decide)]; exact h.2.1, by rw [hS.2.1 43 (by decide)]; exact h.2.2⟩
theorem gm_lrn {Y : Yd} {τ0 : Mem} {n boy : Nat} {τ : Mem} (h : GmS Y τ0 n boy τ) (l : Nat) (w : Bool) : GmS Y τ0 n boy (lrn τ l w) := by
  unfold lrn
  by_cases q : w = own l
  · rw [if_pos q]; exact gm_setI (gm_setI h (by omega)) (by omega)
  · rw [if_neg q]; exact h
theorem held_set {Y : Yd} {D : Dy} {l o k : Nat} {v : Int32} {τ : Mem} (h : Held Y D l τ) (ho : o ≠ 8) : Held Y D l (setI τ o k v) := by
  unfold Held
  rw [setI_ne1 (by omega)]
  exact h
theorem ent_ok {Y : Yd} {τ0 : Mem} {n boy : Nat} {τ : Mem} {D : Dy} (h : GmS Y τ0 n boy τ) (hE : EncM Y D (τ.1 4) (τ.2 0 8)) {l : Nat} : GmS Y τ0 n boy (ent τ l) ∧ Lv (ent τ l) l 0 false false (!own l) false ∧ (ent τ l).1 0 41 = nI l ∧ Held Y D l (ent τ l) ∧ LoS l τ (ent τ l) := by
  unfold ent
  refine ⟨gm_setI (gm_setI (gm_setI (gm_setI (gm_setI (gm_held (gm_41 h) l) (by omega)) (by omega)) (by omega)) (by omega)) (by omega), ⟨?_, ?_, ?_, ?_, ?_⟩, ?_, ?_, ?_⟩
  · rw [setI_ne1 (by decide), setI_ne1 (by decide), setI_ne1 (by decide), setI_ne1 (by decide), setI_s1]; simp [upd]; rfl
  · rw [setI_ne1 (by decide), setI_ne1 (by decide), setI_ne1 (by decide), setI_s1]; simp [upd]; rfl
  · rw [setI_ne1 (by decide), setI_ne1 (by decide), setI_s1]; simp [upd]; rfl
  · rw [setI_ne1 (by decide), setI_s1]; simp [upd]
  · rw [setI_s1]; simp [upd]; rfl
  · rfl
  · exact held_set (held_set (held_set (held_set (held_set (held_ok (τ := setI τ 0 41 (nI l)) hE) (by decide)) (by decide)) (by decide)) (by decide)) (by decide)
  · have a : LoS l τ (setI τ 0 41 (nI l)) := los_setI (.inr rfl)
    exact los_trans (los_trans (los_trans (los_trans (los_trans (los_trans a los_held') (los_setI (by omega))) (los_setI (by omega))) (los_setI (by omega))) (los_setI (by omega))) (los_setI (by omega))
theorem ho_own {r : PR} {boy : Nat} (hb : boy < 2) (hg : ∀ g, r.2.2 = some g → g.2 < 2) : ((((hoI r.2.2) >>> ((nI boy) &&& 31)) &&& (1 : Int32)) = 1 ↔ hgt r = some boy) ∧ ((((hoI r.2.2) >>> (((1 : Int32) - nI boy) &&& 31)) &&& (1 : Int32)) = 1 ↔ (hgt r ≠ none ∧ hgt r ≠ some boy)) := by
  unfold hgt
  cases h : r.2.2 with
  | none =>
    rcases (show boy = 0 ∨ boy = 1 by omega) with rfl | rfl
    · exact ⟨⟨(fun z => absurd z (by decide)), (fun z => by cases z)⟩, ⟨(fun z => absurd z (by decide)), (fun z => absurd rfl z.1)⟩⟩
    · exact ⟨⟨(fun z => absurd z (by decide)), (fun z => by cases z)⟩, ⟨(fun z => absurd z (by decide)), (fun z => absurd rfl z.1)⟩⟩
  | some g =>
    have := hg g h
    obtain ⟨ga, gb⟩ := g
    have hgb : gb < 2 := this
    rcases (show boy = 0 ∨ boy = 1 by omega) with rfl | rfl <;> rcases (show gb = 0 ∨ gb = 1 by omega) with rfl | rfl
    · exact ⟨⟨(fun _ => rfl), (fun _ => by show ((nI (2 ^ 0) >>> (nI 0 &&& 31)) &&& (1 : Int32)) = 1; decide)⟩, ⟨(fun z => absurd z (by show ¬ ((nI (2 ^ 0) >>> (((1 : Int32) - nI 0) &&& 31)) &&& (1 : Int32)) = 1; decide)), (fun z => absurd rfl z.2)⟩⟩
    · exact ⟨⟨(fun z => absurd z (by show ¬ ((nI (2 ^ 1) >>> (nI 0 &&& 31)) &&& (1 : Int32)) = 1; decide)), (fun z => by cases z)⟩, ⟨(fun _ => ⟨(fun z => by cases z), (fun z => by cases z)⟩), (fun _ => by show ((nI (2 ^ 1) >>> (((1 : Int32) - nI 0) &&& 31)) &&& (1 : Int32)) = 1; decide)⟩⟩
    · exact ⟨⟨(fun z => absurd z (by show ¬ ((nI (2 ^ 0) >>> (nI 1 &&& 31)) &&& (1 : Int32)) = 1; decide)), (fun z => by cases z)⟩, ⟨(fun _ => ⟨(fun z => by cases z), (fun z => by cases z)⟩), (fun _ => by show ((nI (2 ^ 0) >>> (((1 : Int32) - nI 1) &&& 31)) &&& (1 : Int32)) = 1; decide)⟩⟩
    · exact ⟨⟨(fun _ => rfl), (fun _ => by show ((nI (2 ^ 1) >>> (nI 1 &&& 31)) &&& (1 : Int32)) = 1; decide)⟩, ⟨(fun z => absurd z (by show ¬ ((nI (2 ^ 1) >>> (((1 : Int32) - nI 1) &&& 31)) &&& (1 : Int32)) = 1; decide)), (fun z => absurd rfl z.2)⟩⟩
/-- where nobody can push nothing is won -/
theorem vl_none {Y : Yd} {boy : Nat} {D : Dy} (h : anyF (gsF Y D) 0 (4 * db Y) = false) : ∀ (r : Nat) (o : Bool), vl Y boy r o D = false := by
  intro r o
  cases r with
  | zero => rfl
  | succ r =>
    cases o with
    | true =>
      rw [vl_t]
      cases q : anyF (wpF Y boy r D) 0 (4 * db Y)
      · rfl
      · obtain ⟨p, h1, h2, h3⟩ := anyF_iff.mp q
        unfold wpF at h3
        rw [Bool.and_eq_true] at h3
        have := anyF_iff.mpr ⟨p, h1, h2, h3.1⟩
        rw [h] at this; cases this
    | false => rw [vl_f, h]; rfl
def KK (B : Nat) : Nat → Nat
  | 0 => 0
  | r + 1 => (B + 2) * (KK B r + 2) + 1

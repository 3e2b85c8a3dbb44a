/-! ===== fewest: the abstract search; the class's note ===== -/
abbrev Ent : Type := Dy × Nat × Nat
abbrev BS : Type := Nat × (Nat → Ent)
def seen (Y : Yd) (S : BS) (D : Dy) : Prop := ∃ i, i < S.1 ∧ EqD Y (S.2 i).1 D
noncomputable def addS (Y : Yd) (S : BS) (D : Dy) (i p : Nat) : Option BS := @ite _ (seen Y S D) (Classical.propDecidable _) (some S) (if S.1 = 1500 then none else some (S.1 + 1, fun j => if j = S.1 then (D, i, p) else S.2 j))
noncomputable def spr (Y : Yd) (g i : Nat) : Nat → Nat → BS → Nat × BS × Nat
  | _, 0, S => (0, S, 0)
  | p, m + 1, S => if gsF Y (S.2 i).1 p then (if hgt (pp Y T0 (S.2 i).1 p) = some g then (1, S, p) else match addS Y S (pp Y T0 (S.2 i).1 p).1 i p with
      | none => (2, S, 0)
      | some S' => spr Y g i (p + 1) m S') else spr Y g i (p + 1) m S
noncomputable def bfs (Y : Yd) (g : Nat) : Nat → Nat → BS → Nat × BS × Nat × Nat
  | 0, _, S => (0, S, 0, 0)
  | m + 1, i, S => if S.1 ≤ i then (0, S, 0, 0) else if (spr Y g i 0 (4 * db Y) S).1 = 0 then bfs Y g m (i + 1) (spr Y g i 0 (4 * db Y) S).2.1 else ((spr Y g i 0 (4 * db Y) S).1, (spr Y g i 0 (4 * db Y) S).2.1, i, (spr Y g i 0 (4 * db Y) S).2.2)
def WfS (Y : Yd) (S : BS) : Prop := S.1 ≤ 1500 ∧ ∀ i, i < S.1 → WFD Y (S.2 i).1 ∧ (0 < i → (S.2 i).2.1 < i ∧ (S.2 i).2.2 < 4 * db Y)
theorem wfs_add {Y : Yd} {S S' : BS} (h : WfS Y S) {D : Dy} (hD : WFD Y D) {i p : Nat} (hi : i < S.1 ∨ S.1 = 0) (hp : p < 4 * db Y ∨ S.1 = 0) (ha : addS Y S D i p = some S') : WfS Y S' ∧ S.1 ≤ S'.1 ∧ ∀ j, j < S.1 → S'.2 j = S.2 j := by
  unfold addS at ha
  by_cases hs : seen Y S D
  · rw [if_pos hs] at ha
    cases ha
    exact ⟨h, Nat.le_refl _, fun _ _ => rfl⟩
  · rw [if_neg hs] at ha
    by_cases h15 : S.1 = 1500
    · rw [if_pos h15] at ha; cases ha
    · rw [if_neg h15] at ha
      cases ha
      refine ⟨⟨by have := h.1; show S.1 + 1 ≤ 1500; omega, fun j hj => ?_⟩, Nat.le_succ _, fun j hj => ?_⟩
      · show WFD Y (if j = S.1 then (D, i, p) else S.2 j).1 ∧ (0 < j → (if j = S.1 then (D, i, p) else S.2 j).2.1 < j ∧ (if j = S.1 then (D, i, p) else S.2 j).2.2 < 4 * db Y)
        by_cases e : j = S.1
        · rw [if_pos e]
          exact ⟨hD, fun h0 => ⟨by show i < j; omega, by show p < 4 * db Y; omega⟩⟩
        · rw [if_neg e]
          exact h.2 j (by have : j < S.1 + 1 := hj; omega)
      · show (if j = S.1 then (D, i, p) else S.2 j) = S.2 j
        rw [if_neg (by omega)]
/-- the row that leads to a push, from its end on -/
def revP (E : Nat → Ent) : Nat → Nat → Nat → List Nat
  | 0, _, p => [p]
  | f + 1, i, p => if i = 0 then [p] else p :: revP E f (E i).2.1 (E i).2.2
theorem revP_len (E : Nat → Ent) : ∀ (f i p : Nat), 1 ≤ (revP E f i p).length ∧ (revP E f i p).length ≤ f + 1 := by
  intro f
  induction f with
  | zero => intro i p; exact ⟨Nat.le_refl _, Nat.le_refl _⟩
  | succ f ih =>
    intro i p
    unfold revP
    by_cases h : i = 0
    · rw [if_pos h]; exact ⟨Nat.le_refl _, by simp⟩
    · rw [if_neg h, List.length_cons]
      have := ih (E i).2.1 (E i).2.2
      omega
theorem revP_len_i {Y : Yd} {S : BS} (hS : WfS Y S) : ∀ (f i p : Nat), i < S.1 → (revP S.2 f i p).length ≤ i + 1 := by
  intro f
  induction f with
  | zero => intro i p _; show 1 ≤ i + 1; omega
  | succ f ih =>
    intro i p hi
    unfold revP
    by_cases h : i = 0
    · rw [if_pos h]; show 1 ≤ i + 1; omega
    · rw [if_neg h, List.length_cons]
      have h1 := (hS.2 i hi).2 (by omega)
      have := ih (S.2 i).2.1 (S.2 i).2.2 (by omega)
      omega
/-! the class -/
def hX (y : Int64) : Nat := (y * (-7046029254386353131 : Int64)).toBitVec.toNat / 2 ^ 52
theorem hX_lt (y : Int64) : hX y < 4096 := by
  unfold hX
  have := (y * (-7046029254386353131 : Int64)).toBitVec.isLt
  exact Nat.div_lt_of_lt_mul (by
    rw [show 2 ^ 52 * 4096 = 2 ^ 64 by decide]
    exact this)
theorem lN_self (x : Int64) : x = lN x.toBitVec.toNat := Int64.toBitVec_inj.mp (by
  show x.toBitVec = BitVec.ofNat 64 x.toBitVec.toNat
  simp)
theorem hX_eq (y : Int64) : (((y * (-7046029254386353131 : Int64)).toUInt64 >>> (((52 : Int32)).toInt64.toUInt64 &&& Int64.toUInt64 63)).toInt64).toInt32 = nI (hX y) := by
  unfold hX
  have h := lN_self (y * (-7046029254386353131 : Int64))
  generalize hz : (y * (-7046029254386353131 : Int64)).toBitVec.toNat = z at h
  rw [h, show (52 : Int32) = nI 52 from rfl, shrL (by rw [← hz]; exact (y * (-7046029254386353131 : Int64)).toBitVec.isLt) (by decide), lN_i]
def BfX (Y : Yd) (S : BS) (σ : Mem) : Prop := σ.1 3 7 = nI S.1 ∧ (∀ i, i < S.1 → EncX Y (S.2 i).1 (σ.2 23 i)) ∧ (∀ i, 0 < i → i < S.1 → σ.1 24 i = nI (S.2 i).2.1 ∧ σ.1 25 i = nI (num (S.2 i).2.2)) ∧ TB (σ.1 27) S.1 (fun i => hX (σ.2 23 i))
def KpB (σ σ' : Mem) : Prop := (∀ o, o ≠ 2 → o ≠ 22 → o ≠ 3 → ¬ (24 ≤ o ∧ o ≤ 27) → σ'.1 o = σ.1 o) ∧ ∀ o, o ≠ 2 → o ≠ 23 → σ'.2 o = σ.2 o
theorem kpb_rfl (σ : Mem) : KpB σ σ := ⟨fun _ _ _ _ _ => rfl, fun _ _ _ => rfl⟩
theorem kpb_trans {a b c : Mem} (h : KpB a b) (h' : KpB b c) : KpB a c := ⟨fun o h1 h2 h3 h4 => (h'.1 o h1 h2 h3 h4).trans (h.1 o h1 h2 h3 h4), fun o h1 h2 => (h'.2 o h1 h2).trans (h.2 o h1 h2)⟩
theorem kpb_x {a b : Mem} (h : KpX a b) : KpB a b := ⟨fun o h1 h2 _ _ => h.1 o h1 h2, fun o h1 _ => h.2 o h1⟩
theorem bfx_kp {Y : Yd} {S : BS} {σ σ' : Mem} (h : BfX Y S σ) (hk : KpX σ σ') : BfX Y S σ' := by
  unfold BfX
  rw [hk.1 3 (by decide) (by decide), hk.1 24 (by decide) (by decide), hk.1 25 (by decide) (by decide), hk.1 27 (by decide) (by decide), hk.2 23 (by decide)]
  exact h
theorem slo_loop {σ : Mem} {y : Int64} {hh t0 n : Nat} (hh4 : hh < 4096) (ht : t0 < 4096) (hn : n ≤ 1500) (hbef : ∀ t', t' < t0 → ∃ i, i < n ∧ σ.1 27 ((hh + t') % 4096) = nI (i + 1) ∧ ¬ σ.2 23 i = y) (hat : σ.1 27 ((hh + t0) % 4096) = 0 ∨ ∃ i, i < n ∧ σ.1 27 ((hh + t0) % 4096) = nI (i + 1) ∧ σ.2 23 i = y) : ∀ (m t fuel : Nat), t + m = t0 → m < fuel → FX4_slotOf_13 fuel σ y (nI hh) (nI t) = some (nI ((hh + t0) % 4096), σ) := by
  have hmod : ∀ t, (nI hh + nI t) &&& (4095 : Int32) = nI ((hh + t) % 4096) := fun t => by
    rw [nI_add, show (4095 : Int32) = nI 4095 from rfl, andI]
    exact congrArg nI (Nat.and_two_pow_sub_one_eq_mod _ 12)
  intro m
  induction m with
  | zero =>
    intro t fuel htm hf
    obtain ⟨f, rfl⟩ : ∃ f, fuel = f + 1 := ⟨fuel - 1, by omega⟩
    have e : t = t0 := by omega
    subst e
    show BX4_slotOf_13 (FX4_slotOf_13 f) σ y _ _ = _
    unfold BX4_slotOf_13
    rw [if_neg (show ¬ (4096 : Int32) ≤ nI t from nI_ge (b := 4096) ht (by decide)), hmod, nm_eq, rd_in (by omega) (by decide)]
    rcases hat with z | ⟨i, hi, z, k⟩
    · rw [z, nm_eq, if_pos (by decide)]
    · rw [z, nI_pred, nm_eq, if_neg (nI_pos (by omega)), if_neg (show ¬ (1500 : Int32) ≤ nI i from nI_ge (b := 1500) (by omega) (by decide)), rd_in (by omega) (by decide), if_pos (lg_eq.mpr k)]
  | succ m ih =>
    intro t fuel htm hf
    obtain ⟨f, rfl⟩ : ∃ f, fuel = f + 1 := ⟨fuel - 1, by omega⟩
    obtain ⟨i, hi, z, k⟩ := hbef t (by omega)
    show BX4_slotOf_13 (FX4_slotOf_13 f) σ y _ _ = _
    unfold BX4_slotOf_13
    rw [if_neg (show ¬ (4096 : Int32) ≤ nI t from nI_ge (b := 4096) (by omega) (by decide)), hmod, nm_eq, rd_in (by omega) (by decide), z, nI_pred, nm_eq, if_neg (nI_pos (by omega)), if_neg (show ¬ (1500 : Int32) ≤ nI i from nI_ge (b := 1500) (by omega) (by decide)), rd_in (by omega) (by decide), if_neg (fun w => k (lg_eq.mp w)), nm_eq, nI_1, ih (t + 1) f (by omega) (by omega)]
theorem note_x {Y : Yd} (hY : WFY Y) {S : BS} {σ : Mem} (hS : WfS Y S) (hB : BfX Y S σ) {D : Dy} (hD : WFD Y D) {y : Int64} (hy : EncX Y D y) {i0 p : Nat} {o b : Int32} (hob : 0 < S.1 → o = nI i0 ∧ b = nI (num p)) : ∃ (v : Int32) (σ' : Mem), FX4_note σ y o b = some (v, σ') ∧ (addS Y S D i0 p = none → v = 0 ∧ σ' = σ) ∧ (∀ S', addS Y S D i0 p = some S' → v = 1 ∧ BfX Y S' σ') ∧ (∀ q, q ≠ 3 → q ≠ 24 → q ≠ 25 → q ≠ 27 → σ'.1 q = σ.1 q) ∧ ∀ q, q ≠ 23 → σ'.2 q = σ.2 q := by
  have hn := hS.1
  have hkey : ∀ i, i < S.1 → (σ.2 23 i = y ↔ EqD Y (S.2 i).1 D) := fun i hi => by
    constructor
    · intro e
      have := hB.2.1 i hi
      rw [e] at this
      exact enc_inj hY (hS.2 i hi).1 hD this hy
    · intro e
      exact enc_eq hY (enc_cong e (hB.2.1 i hi)) hy
  obtain ⟨t, ht, hbef, hat⟩ := tb_probe hB.2.2.2 hn (hX_lt y) (fun i => σ.2 23 i = y) (fun i _ k => by show hX (σ.2 23 i) = hX y; rw [k])
  have hslot : FX4_slotOf σ y = some (nI ((hX y + t) % 4096), σ) := by
    unfold FX4_slotOf
    rw [nm_eq, hX_eq]
    refine slo_loop (hX_lt y) ht hn hbef ?_ t 0 FU (Nat.zero_add _) (by show t < 10000000; omega)
    rcases hat with z | z
    · exact .inl z.1
    · exact .inr z
  have hq : (hX y + t) % 4096 < 4096 := by omega
  unfold FX4_note
  rw [hslot, bi_some, if_neg (nI_pos (by omega)), if_pos (show nI ((hX y + t) % 4096) < (4096 : Int32) from nI_lt (b := 4096) hq (by decide)), rd_in hq (by decide)]
  unfold addS
  rcases hat with ⟨z, hno⟩ | ⟨i, hi, z, k⟩
  · have hs : ¬ seen Y S D := fun ⟨i, hi, e⟩ => hno i hi ((hkey i hi).mpr e)
    rw [if_neg hs, z, if_pos rfl, hB.1, if_neg (nI_pos (by omega))]
    by_cases h15 : S.1 = 1500
    · rw [if_pos h15, h15, if_neg (show ¬ nI 1500 < (1500 : Int32) by decide)]
      exact ⟨0, σ, rfl, fun _ => ⟨rfl, rfl⟩, (fun S' h => by cases h), fun _ _ _ _ _ => rfl, fun _ _ => rfl⟩
    · rw [if_neg h15, if_pos (show nI S.1 < (1500 : Int32) from nI_lt (b := 1500) (by omega) (by decide)), stL_in (by omega) (by decide)]
      rw [show (setL σ 23 S.1 y).1 3 7 = nI S.1 from hB.1, stI_in (by omega) (by decide)]
      rw [show (setI (setL σ 23 S.1 y) 24 S.1 o).1 3 7 = nI S.1 from hB.1, stI_in (by omega) (by decide), nm_eq]
      rw [show (setI (setI (setL σ 23 S.1 y) 24 S.1 o) 25 S.1 b).1 3 7 = nI S.1 from hB.1, nI_1]
      rw [show (setI (setI (setI (setL σ 23 S.1 y) 24 S.1 o) 25 S.1 b) 3 7 (nI (S.1 + 1))).1 3 7 = nI (S.1 + 1) from rfl, stI_in hq (by decide)]
      refine ⟨1, _, rfl, (fun h => by cases h), fun S' h => ?_, fun q h3 h24 h25 h27 => ?_, fun q h23 => ?_⟩
      · cases h
        refine ⟨rfl, rfl, fun i hi => ?_, fun i h0 hi => ?_, ?_⟩
        · have hi : i < S.1 + 1 := hi
          show EncX Y (if i = S.1 then (D, i0, p) else S.2 i).1 (vp_updL (σ.2 23) S.1 y i)
          by_cases e : i = S.1
          · simp only [vp_updL, if_pos e]; exact hy
          · simp only [vp_updL, if_neg e]; exact hB.2.1 i (by omega)
        · have hi : i < S.1 + 1 := hi
          show upd (σ.1 24) S.1 o i = nI (if i = S.1 then (D, i0, p) else S.2 i).2.1 ∧ upd (σ.1 25) S.1 b i = nI (num (if i = S.1 then (D, i0, p) else S.2 i).2.2)
          by_cases e : i = S.1
          · simp only [upd, if_pos e]
            have := hob (by omega)
            exact ⟨this.1, this.2⟩
          · simp only [upd, if_neg e]
            exact hB.2.2.1 i h0 (by omega)
        · show TB (upd (σ.1 27) ((hX y + t) % 4096) (nI (S.1 + 1))) (S.1 + 1) (fun i => hX (vp_updL (σ.2 23) S.1 y i))
          refine tb_ins hB.2.2.2 (by omega) ht (fun t' ht' => ?_) z (fun j hj => ?_) ?_
          · obtain ⟨i, hi, w, _⟩ := hbef t' ht'
            rw [w]; exact nI_ne0 (by omega) (by omega)
          · simp only [vp_updL]
            rw [if_neg (by omega)]
          · simp only [vp_updL, if_true]
      · rw [setI_ne1 h27, setI_ne1 h3, setI_ne1 h25, setI_ne1 h24]; rfl
      · show (setL σ 23 S.1 y).2 q = _
        rw [setL_ne2 h23]
  · have hs : seen Y S D := ⟨i, hi, (hkey i hi).mp k⟩
    rw [if_pos hs, z, if_neg (nI_ne0 (by omega) (by omega))]
    exact ⟨1, σ, rfl, (fun h => by cases h), (fun S' h => by cases h; exact ⟨rfl, hB⟩), fun _ _ _ _ _ => rfl, fun _ _ => rfl⟩

/-! ===== yard: the class lays the ways ===== -/
def WX (Y : Yd) (σ : Mem) : Prop := σ.1 1 4 = nI (dh Y) ∧ σ.1 1 5 = nI (dw Y) ∧ ∀ i, bit64 (σ.2 1 8) i = (decide (i < dn Y) && dg Y i == 1)
theorem lw_d {Y : Yd} {σ : Mem} (hW : ∀ i, bit64 (σ.2 1 8) i = (decide (i < dn Y) && dg Y i == 1)) (h36 : dn Y ≤ 36) {c d : Nat} (hc : c < 36) (hd : d < 4) (s0 nx : Int32) (q : Option Nat) (hq : nxt Y c d = q.bind fun c2 => if dg Y c2 = 1 then none else some c2) (h0 : q = none → s0 = 0) (h1 : ∀ e, q = some e → s0 = 1 ∧ nx = nI e ∧ e < dn Y) : FX1_layWay σ (nI c) (nI d) s0 nx = some (setI σ 21 (4 * c + d) (wayI (nxt Y c d))) := by
  unfold FX1_layWay
  rw [show (4 : Int32) = nI 4 from rfl, pk_mul, nI_add, Nat.mul_comm c 4, nm_eq, if_neg (nI_pos (by omega)), if_neg (show ¬ (144 : Int32) ≤ nI (4 * c + d) from nI_ge (b := 144) (by omega) (by omega))]
  cases q with
  | none =>
    rw [if_pos (h0 rfl), stI_in (by omega) (by decide), hq]; rfl
  | some e =>
    obtain ⟨e1, e2, e3⟩ := h1 e rfl
    rw [if_neg (show ¬ s0 = 0 by rw [e1]; decide), e2, has_eq σ _ (by omega), bi_some, hW e, decide_eq_true e3, Bool.true_and]
    by_cases g : dg Y e = 1
    · have hn : nxt Y c d = none := by rw [hq]; show (if dg Y e = 1 then none else some e) = none; rw [if_pos g]
      rw [g, if_neg (show ¬ (if (1 == 1) = true then (1 : Int32) else 0) = 0 by decide), stI_in (by omega) (by decide), hn]; rfl
    · have hn : nxt Y c d = some e := by rw [hq]; show (if dg Y e = 1 then none else some e) = some e; rw [if_neg g]
      rw [beq_false_of_ne g, if_pos (show (if false = true then (1 : Int32) else 0) = 0 by decide), stI_in (by omega) (by decide), hn]; rfl
def pt4 (Y : Yd) (c : Nat) (σ : Mem) : Mem := setI (setI (setI (setI σ 21 (4 * c + 0) (wayI (nxt Y c 0))) 21 (4 * c + 1) (wayI (nxt Y c 1))) 21 (4 * c + 2) (wayI (nxt Y c 2))) 21 (4 * c + 3) (wayI (nxt Y c 3))
def FrW (σ σ' : Mem) : Prop := (∀ o, o ≠ 21 → σ'.1 o = σ.1 o) ∧ σ'.2 = σ.2
theorem frW_I (σ : Mem) (k : Nat) (v : Int32) : FrW σ (setI σ 21 k v) := ⟨fun _ h => setI_ne1 h, rfl⟩
theorem frW_t {a b c : Mem} (h1 : FrW a b) (h2 : FrW b c) : FrW a c := ⟨fun o h => (h2.1 o h).trans (h1.1 o h), h2.2.trans h1.2⟩
theorem frW_4 (Y : Yd) (c : Nat) (σ : Mem) : FrW σ (pt4 Y c σ) := frW_t (frW_t (frW_t (frW_I σ _ _) (frW_I _ _ _)) (frW_I _ _ _)) (frW_I _ _ _)
theorem wx_fr {Y : Yd} {σ σ' : Mem} (h : FrW σ σ') (H : WX Y σ) : WX Y σ' := by
  unfold WX
  rw [h.1 1 (by decide), h.2]
  exact H
def Wd (Y : Yd) (c0 : Nat) (σ : Mem) : Prop := ∀ c d, c < c0 → d < 4 → σ.1 21 (4 * c + d) = wayI (nxt Y c d)
theorem wd_4 {Y : Yd} {c : Nat} {σ : Mem} (H : Wd Y c σ) : Wd Y (c + 1) (pt4 Y c σ) := by
  intro c' d hc hd
  unfold pt4
  by_cases e : c' = c
  · subst e
    rcases (show d = 0 ∨ d = 1 ∨ d = 2 ∨ d = 3 by omega) with rfl | rfl | rfl | rfl
    · rw [sI_ne (by omega), sI_ne (by omega), sI_ne (by omega), sI_eq]
    · rw [sI_ne (by omega), sI_ne (by omega), sI_eq]
    · rw [sI_ne (by omega), sI_eq]
    · rw [sI_eq]
  · rw [sI_ne (by omega), sI_ne (by omega), sI_ne (by omega), sI_ne (by omega)]
    exact H c' d (by omega) hd
theorem lw_cell {Y : Yd} (h36 : dn Y ≤ 36) (h6 : dh Y ≤ 6 ∧ dw Y ≤ 6) (rl2 : Mem → Int32 → Option Mem) (rl12 : Mem → Int32 → Int32 → Option Mem) {σ : Mem} (H : WX Y σ) {x y : Nat} (hx : x < dw Y) (hy : y < dh Y) : BX1_layWays_12 rl2 rl12 σ (nI y) (nI x) = rl12 (pt4 Y (y * dw Y + x) σ) (nI y) (nI (x + 1)) := by
  have hmod : (y * dw Y + x) % dw Y = x := by rw [Nat.mul_comm, Nat.mul_add_mod, Nat.mod_eq_of_lt hx]
  have hdiv : (y * dw Y + x) / dw Y = y := by rw [Nat.mul_comm, Nat.mul_add_div (by omega), Nat.div_eq_of_lt hx, Nat.add_zero]
  have b1 : (y + 1) * dw Y ≤ dh Y * dw Y := Nat.mul_le_mul_right _ hy
  have b2 : y + 1 < dh Y → (y + 2) * dw Y ≤ dh Y * dw Y := fun h => Nat.mul_le_mul_right _ h
  have b3 : 0 < y → 1 * dw Y ≤ y * dw Y := fun h => Nat.mul_le_mul_right _ h
  rw [Nat.add_mul] at b1 b2
  have hdn : dn Y = dh Y * dw Y := rfl
  have q0 : nxt Y (y * dw Y + x) 0 = (if 0 < y then some (y * dw Y + x - dw Y) else none).bind fun c2 => if dg Y c2 = 1 then none else some c2 := by
    have : nxt Y (y * dw Y + x) 0 = (if 0 < (y * dw Y + x) / dw Y then some (y * dw Y + x - dw Y) else none).bind fun c2 => if dg Y c2 = 1 then none else some c2 := rfl
    rw [this, hdiv]
  have q1 : nxt Y (y * dw Y + x) 1 = (if x + 1 < dw Y then some (y * dw Y + x + 1) else none).bind fun c2 => if dg Y c2 = 1 then none else some c2 := by
    have : nxt Y (y * dw Y + x) 1 = (if (y * dw Y + x) % dw Y + 1 < dw Y then some (y * dw Y + x + 1) else none).bind fun c2 => if dg Y c2 = 1 then none else some c2 := rfl
    rw [this, hmod]
  have q2 : nxt Y (y * dw Y + x) 2 = (if y + 1 < dh Y then some (y * dw Y + x + dw Y) else none).bind fun c2 => if dg Y c2 = 1 then none else some c2 := by
    have : nxt Y (y * dw Y + x) 2 = (if (y * dw Y + x) / dw Y + 1 < dh Y then some (y * dw Y + x + dw Y) else none).bind fun c2 => if dg Y c2 = 1 then none else some c2 := rfl
    rw [this, hdiv]
  have q3 : nxt Y (y * dw Y + x) 3 = (if 0 < x then some (y * dw Y + x - 1) else none).bind fun c2 => if dg Y c2 = 1 then none else some c2 := by
    have : nxt Y (y * dw Y + x) 3 = (if 0 < (y * dw Y + x) % dw Y then some (y * dw Y + x - 1) else none).bind fun c2 => if dg Y c2 = 1 then none else some c2 := rfl
    rw [this, hmod]
  generalize hc : y * dw Y + x = c at q0 q1 q2 q3 ⊢
  have hc36 : c < 36 := by omega
  unfold pt4
  generalize hs1 : setI σ 21 (4 * c + 0) (wayI (nxt Y c 0)) = σ1
  have F1 : FrW σ σ1 := by rw [← hs1]; exact frW_I _ _ _
  generalize hs2 : setI σ1 21 (4 * c + 1) (wayI (nxt Y c 1)) = σ2
  have F2 : FrW σ σ2 := by rw [← hs2]; exact frW_t F1 (frW_I _ _ _)
  generalize hs3 : setI σ2 21 (4 * c + 2) (wayI (nxt Y c 2)) = σ3
  have F3 : FrW σ σ3 := by rw [← hs3]; exact frW_t F2 (frW_I _ _ _)
  have h92 : ∀ s0 : Int32, s0 = (if y + 1 < dh Y then 1 else 0) → FX1_layWays_92 rl2 rl12 σ2 (nI y) (nI x) (nI c) s0 (2 : Int32) (nI c) = rl12 (setI σ3 21 (4 * c + 3) (wayI (nxt Y c 3))) (nI y) (nI (x + 1)) := by
    intro s0 hs
    unfold FX1_layWays_92
    have hl : FX1_layWay σ2 (nI c) (2 : Int32) s0 (nI c + (σ2.1 1 5)) = some σ3 := by
      rw [← hs3, (wx_fr F2 H).2.1, nI_add]
      refine lw_d (wx_fr F2 H).2.2 h36 (d := 2) hc36 (by omega) s0 _ _ q2 (fun e => ?_) (fun e he => ?_)
      · by_cases g : y + 1 < dh Y
        · rw [if_pos g] at e; cases e
        · rw [hs, if_neg g]
      · by_cases g : y + 1 < dh Y
        · rw [if_pos g] at he; cases he
          have := b2 g
          exact ⟨by rw [hs, if_pos g], rfl, by omega⟩
        · rw [if_neg g] at he; cases he
    rw [hl, bv_some]
    by_cases g : 0 < x
    · rw [if_neg (nI_nle g (by omega)), show nI c - (1 : Int32) = nI (c - 1) from pk_sub (b := 1) (by omega)]
      rw [lw_d (wx_fr F3 H).2.2 h36 (d := 3) hc36 (by omega) 1 (nI (c - 1)) _ q3 (fun e => by rw [if_pos g] at e; cases e) (fun e he => by rw [if_pos g] at he; cases he; exact ⟨rfl, rfl, by omega⟩) |> fun z => (show FX1_layWay σ3 (nI c) (3 : Int32) (1 : Int32) (nI (c - 1)) = _ from z), bv_some, nI_1, nm_eq]
    · rw [if_pos (show nI x ≤ 0 by rw [show x = 0 by omega]; decide)]
      rw [lw_d (wx_fr F3 H).2.2 h36 (d := 3) hc36 (by omega) 0 (nI c - 1) _ q3 (fun e => rfl) (fun e he => by rw [if_neg g] at he; cases he) |> fun z => (show FX1_layWay σ3 (nI c) (3 : Int32) (0 : Int32) (nI c - 1) = _ from z), bv_some, nI_1, nm_eq]
  have h68 : ∀ s0 : Int32, s0 = (if x + 1 < dw Y then 1 else 0) → FX1_layWays_68 rl2 rl12 σ1 (nI y) (nI x) (nI c) s0 (1 : Int32) (nI c) = rl12 (setI σ3 21 (4 * c + 3) (wayI (nxt Y c 3))) (nI y) (nI (x + 1)) := by
    intro s0 hs
    unfold FX1_layWays_68
    have hl : FX1_layWay σ1 (nI c) (1 : Int32) s0 (nI c + (1 : Int32)) = some σ2 := by
      rw [← hs2, nI_1]
      refine lw_d (wx_fr F1 H).2.2 h36 (d := 1) hc36 (by omega) s0 _ _ q1 (fun e => ?_) (fun e he => ?_)
      · by_cases g : x + 1 < dw Y
        · rw [if_pos g] at e; cases e
        · rw [hs, if_neg g]
      · by_cases g : x + 1 < dw Y
        · rw [if_pos g] at he; cases he
          exact ⟨by rw [hs, if_pos g], rfl, by omega⟩
        · rw [if_neg g] at he; cases he
    rw [hl, bv_some, (wx_fr F2 H).1, show nI (dh Y) - (1 : Int32) = nI (dh Y - 1) from pk_sub (b := 1) (by omega)]
    by_cases g : y + 1 < dh Y
    · rw [if_neg (nI_ge (by omega) (by omega)), h92 1 (by rw [if_pos g])]
    · rw [if_pos (nI_le (by omega) (by omega)), h92 0 (by rw [if_neg g])]
  have h41 : ∀ s0 : Int32, s0 = (if 0 < y then 1 else 0) → FX1_layWays_41 rl2 rl12 σ (nI y) (nI x) (nI c) s0 (0 : Int32) (nI c) = rl12 (setI σ3 21 (4 * c + 3) (wayI (nxt Y c 3))) (nI y) (nI (x + 1)) := by
    intro s0 hs
    unfold FX1_layWays_41
    have hl : FX1_layWay σ (nI c) (0 : Int32) s0 (nI c - (σ.1 1 5)) = some σ1 := by
      rw [← hs1, H.2.1]
      refine lw_d H.2.2 h36 (d := 0) hc36 (by omega) s0 _ _ q0 (fun e => ?_) (fun e he => ?_)
      · by_cases g : 0 < y
        · rw [if_pos g] at e; cases e
        · rw [hs, if_neg g]
      · by_cases g : 0 < y
        · rw [if_pos g] at he; cases he
          have := b3 g
          exact ⟨by rw [hs, if_pos g], pk_sub (by omega), by omega⟩
        · rw [if_neg g] at he; cases he
    rw [hl, bv_some, (wx_fr F1 H).2.1, show nI (dw Y) - (1 : Int32) = nI (dw Y - 1) from pk_sub (b := 1) (by omega)]
    by_cases g : x + 1 < dw Y
    · rw [if_neg (nI_ge (by omega) (by omega)), h68 1 (by rw [if_pos g])]
    · rw [if_pos (nI_le (by omega) (by omega)), h68 0 (by rw [if_neg g])]
  unfold BX1_layWays_12
  rw [H.2.1, if_neg (nI_ge hx (by omega)), pk_mul, nI_add, nm_eq, hc]
  by_cases g : 0 < y
  · rw [if_neg (nI_nle g (by omega)), h41 1 (by rw [if_pos g])]
  · rw [if_pos (show nI y ≤ 0 by rw [show y = 0 by omega]; decide), h41 0 (by rw [if_neg g])]
theorem lwx_loop {Y : Yd} (h36 : dn Y ≤ 36) (h6 : dh Y ≤ 6 ∧ dw Y ≤ 6) (rl2 : Mem → Int32 → Option Mem) {y : Nat} (hy : y < dh Y) : ∀ (m x f : Nat) (σ : Mem), x + m = dw Y → m < f → WX Y σ → Wd Y (y * dw Y + x) σ → ∃ σ', FX1_layWays_12 rl2 f σ (nI y) (nI x) = rl2 σ' (nI (y + 1)) ∧ FrW σ σ' ∧ Wd Y (y * dw Y + dw Y) σ' := by
  intro m
  induction m with
  | zero =>
    intro x f σ hx hf H hd
    obtain ⟨f, rfl⟩ : ∃ g, f = g + 1 := ⟨f - 1, by omega⟩
    have ex : x = dw Y := by omega
    subst ex
    refine ⟨σ, ?_, ⟨fun _ _ => rfl, rfl⟩, hd⟩
    show BX1_layWays_12 rl2 (FX1_layWays_12 rl2 f) σ (nI y) (nI (dw Y)) = _
    unfold BX1_layWays_12
    rw [H.2.1, if_pos (nI_le (Nat.le_refl _) (by omega)), nI_1, nm_eq]
  | succ m ih =>
    intro x f σ hx hf H hd
    obtain ⟨f, rfl⟩ : ∃ g, f = g + 1 := ⟨f - 1, by omega⟩
    obtain ⟨σ', r1, r2, r3⟩ := ih (x + 1) f (pt4 Y (y * dw Y + x) σ) (by omega) (by omega) (wx_fr (frW_4 _ _ _) H) (wd_4 hd)
    refine ⟨σ', ?_, frW_t (frW_4 _ _ _) r2, r3⟩
    rw [← r1]
    exact lw_cell h36 h6 rl2 (FX1_layWays_12 rl2 f) H (by omega) hy
theorem lwy_loop {Y : Yd} (h36 : dn Y ≤ 36) (h6 : dh Y ≤ 6 ∧ dw Y ≤ 6) : ∀ (m y f : Nat) (σ : Mem), y + m = dh Y → m < f → WX Y σ → Wd Y (y * dw Y) σ → ∃ σ', FX1_layWays_2 f σ (nI y) = some σ' ∧ FrW σ σ' ∧ Wd Y (dn Y) σ' := by
  intro m
  induction m with
  | zero =>
    intro y f σ hy hf H hd
    obtain ⟨f, rfl⟩ : ∃ g, f = g + 1 := ⟨f - 1, by omega⟩
    have ey : y = dh Y := by omega
    subst ey
    refine ⟨σ, ?_, ⟨fun _ _ => rfl, rfl⟩, hd⟩
    show BX1_layWays_2 (FX1_layWays_2 f) σ (nI (dh Y)) = _
    unfold BX1_layWays_2
    rw [H.1, if_pos (nI_le (Nat.le_refl _) (by omega))]
  | succ m ih =>
    intro y f σ hy hf H hd
    obtain ⟨f, rfl⟩ : ∃ g, f = g + 1 := ⟨f - 1, by omega⟩
    obtain ⟨σ1, r1, r2, r3⟩ := lwx_loop h36 h6 (FX1_layWays_2 f) (show y < dh Y by omega) (dw Y) 0 FU σ (Nat.zero_add _) (by show dw Y < 10000000; omega) H hd
    obtain ⟨σ', s1, s2, s3⟩ := ih (y + 1) f σ1 (by omega) (by omega) (wx_fr r2 H) (by rw [Nat.succ_mul]; exact r3)
    refine ⟨σ', ?_, frW_t r2 s2, s3⟩
    rw [← s1, ← r1]
    show BX1_layWays_2 (FX1_layWays_2 f) σ (nI y) = _
    unfold BX1_layWays_2
    rw [H.1, if_neg (nI_ge (by omega) (by omega))]
    rfl
theorem lws_eq {Y : Yd} (hY : WFY Y) {σ : Mem} (H : WX Y σ) : ∃ σ', FX1_layWays σ = some σ' ∧ FrW σ σ' ∧ Wd Y (dn Y) σ' := by
  have h36 := dn_le hY
  have h6 : dh Y ≤ 6 ∧ dw Y ≤ 6 := by rcases hY.1 with q | q <;> omega
  exact lwy_loop h36 h6 (dh Y) 0 FU σ (Nat.zero_add _) (by show dh Y < 10000000; omega) H (fun c d hc => by rw [Nat.zero_mul] at hc; exact absurd hc (Nat.not_lt_zero c))

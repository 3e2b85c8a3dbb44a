/-! ===== the law's push is the push ===== -/
theorem rd1 {R : Type} {n : Nat} (h : 1 < n) (hn : n < 2 ^ 31) (f : Nat → Option R) : rd (1 : Int32) n f = f 1 := rd_in (j := 1) h hn f
theorem rd2 {R : Type} {n : Nat} (h : 2 < n) (hn : n < 2 ^ 31) (f : Nat → Option R) : rd (2 : Int32) n f = f 2 := rd_in (j := 2) h hn f
theorem dzI_ok {R : Type} {y : Int32} (h : ¬ y = 0) (f : Option R) : dzI y f = f := if_neg h
theorem stA_in {R : Type} {j n : Nat} (h : j < n) (hn : n < 2 ^ 31) (f : Nat → Int32) (v : Int32) (g : (Nat → Int32) → Option R) : stA (nI j) n f v g = g (upd f j v) := rd_in h hn _
theorem stB_in {R : Type} {j n : Nat} (h : j < n) (hn : n < 2 ^ 31) (f : Nat → Int64) (v : Int64) (g : (Nat → Int64) → Option R) : stB (nI j) n f v g = g (vp_updL f j v) := rd_in h hn _
theorem stB0 {R : Type} {n : Nat} (h : 0 < n) (hn : n < 2 ^ 31) (f : Nat → Int64) (v : Int64) (g : (Nat → Int64) → Option R) : stB (0 : Int32) n f v g = g (vp_updL f 0 v) := stB_in (j := 0) h hn f v g
theorem stB1 {R : Type} {n : Nat} (h : 1 < n) (hn : n < 2 ^ 31) (f : Nat → Int64) (v : Int64) (g : (Nat → Int64) → Option R) : stB (1 : Int32) n f v g = g (vp_updL f 1 v) := stB_in (j := 1) h hn f v g
theorem uL_eq {f : Nat → Int64} {k : Nat} {v : Int64} : vp_updL f k v k = v := by simp [vp_updL]
theorem uL_ne {f : Nat → Int64} {k j : Nat} {v : Int64} (h : j ≠ k) : vp_updL f k v j = f j := by simp [vp_updL, h]
/-- the law's own arrays of a yard: its numbers, its ground -/
def LawY (Y : Yd) (y g : Nat → Int32) : Prop := y 0 = nI (dh Y) ∧ y 1 = nI (dw Y) ∧ y 2 = nI (db Y) ∧ (∀ k, k < db Y → y (4 + k) = nI (dk Y k)) ∧ (∀ k, k < db Y → y (10 + k) = nI (ds Y k)) ∧ ∀ c, c < dn Y → g c = nI (dg Y c)
/-- blocks, filled cracks; cells come to; more sand -/
def LQ (Y : Yd) (T : Nat → Bool) (D : Dy) (tr : Nat → Bool) (l : Nat → Int32) (s : Nat → Int64) : Prop := EncM Y D l (s 0) ∧ (∀ i, bit64 (s 1) i = tr i) ∧ ∀ i, bit64 (s 2) i = T i
def whI (o : Option Nat) : Int32 := match o with
  | none => -1
  | some k => nI k
theorem pad_in {Y : Yd} {c : Nat} (hc : c < dn Y) : pad Y = 36 := by
  unfold pad
  by_cases h : dh Y = 0
  · have : dn Y = 0 := by show dh Y * dw Y = 0; rw [h, Nat.zero_mul]
    omega
  · exact if_neg h
theorem who_loop {Y : Yd} (hY : WFY Y) {D : Dy} (hD : WFD Y D) {l : Nat → Int32} (hl : ∀ k, k < 6 → l k = plM Y D k) {c : Nat} (hc : c < dn Y) : ∀ (m i fuel : Nat), i + m = 6 → m < fuel → FL_who_2 l fuel (nI c) (nI i) = some (whI (blkN D c i (db Y - i))) := by
  have h6 := hY.2.1
  have h36 := dn_le hY
  intro m
  induction m with
  | zero =>
    intro i fuel hi hf
    obtain ⟨f, rfl⟩ : ∃ f, fuel = f + 1 := ⟨fuel - 1, by omega⟩
    show BL_who_2 l (FL_who_2 l f) (nI c) (nI i) = _
    unfold BL_who_2
    rw [if_pos (show (6 : Int32) ≤ nI i from nI_le (a := 6) (by omega) (by omega)), show db Y - i = 0 by omega]
    rfl
  | succ m ih =>
    intro i fuel hi hf
    obtain ⟨f, rfl⟩ : ∃ f, fuel = f + 1 := ⟨fuel - 1, by omega⟩
    show BL_who_2 l (FL_who_2 l f) (nI c) (nI i) = _
    unfold BL_who_2
    rw [if_neg (show ¬ (6 : Int32) ≤ nI i from nI_ge (b := 6) (by omega) (by decide)), rd_in (by omega) (by decide), hl i (by omega)]
    by_cases hib : i < db Y
    · have hlt := wfd_lt hY hD hib
      rw [plM_in hib, show db Y - i = (db Y - (i + 1)) + 1 by omega]
      unfold blkN
      by_cases e : D.1 i = c
      · rw [if_pos ((lie_eq hlt (by omega)).mpr e), if_pos e]; rfl
      · rw [if_neg (fun q => e ((lie_eq hlt (by omega)).mp q)), if_neg e, nm_eq, nI_1, ih (i + 1) f (by omega) (by omega)]
    · have hp : plM Y D i = -6 := by
        unfold plM
        rw [if_neg hib, pad_in hc]
        rfl
      rw [hp, if_neg (show ¬ (-6 : Int32) = nI c from fun q => by
        have h1 := (lie_eq (p := 36) (by decide) (show c < 36 by omega)).mp q
        omega), nm_eq, nI_1, ih (i + 1) f (by omega) (by omega), show db Y - (i + 1) = db Y - i by omega]
      have h0 : db Y - i = 0 := by omega
      rw [h0]
      rfl
theorem who_eq {Y : Yd} (hY : WFY Y) {D : Dy} (hD : WFD Y D) {l : Nat → Int32} (hl : ∀ k, k < 6 → l k = plM Y D k) {c : Nat} (hc : c < dn Y) : FL_who l (nI c) = some (whI (blkD Y D c)) :=
  who_loop hY hD hl hc 6 0 FU rfl (by show 6 < 10000000; omega)
section LP
variable {yy gg : Nat → Int32} {rl : (Nat → Int32) → (Nat → Int64) → Int32 → Int32 → Int32 → Int32 → Option (Int32 × (Nat → Int32) × (Nat → Int64))}
/-- a step, behind the look at the yard's edge -/
noncomputable def Pr (yy gg : Nat → Int32) (rl : (Nat → Int32) → (Nat → Int64) → Int32 → Int32 → Int32 → Int32 → Option (Int32 × (Nat → Int32) × (Nat → Int64))) (A2 : Nat → Int32) (A3 : Nat → Int64) (x5 x6 x7 e : Int32) : Option (Int32 × (Nat → Int32) × (Nat → Int64)) :=
  rd e 36 fun j52 =>
  if (gg j52) = (1 : Int32) then
  (rl A2 A3 x5 x6 x7 (0 : Int32))
  else
  (bn (FL_who A2 e) fun o53 =>
  if o53 < 0 then
  (rd (1 : Int32) 3 fun j54 =>
  stB (1 : Int32) 3 A3 ((A3 j54) ||| ((1 : Int64) <<< ((e).toInt64 &&& 63))) fun f55 =>
  rd e 36 fun j56 =>
  if (gg j56) = (3 : Int32) then
  (rd (0 : Int32) 3 fun j57 =>
  if (lg_cmp (((f55 j57) >>> ((e).toInt64 &&& 63)) &&& (1 : Int64)) (0 : Int64)) = 0 then
  (FL_push_226 yy gg rl A2 f55 x5 x6 x7 e (1 : Int32))
  else
  (FL_push_226 yy gg rl A2 f55 x5 x6 x7 e (0 : Int32)))
  else
  (FL_push_226 yy gg rl A2 f55 x5 x6 x7 e (0 : Int32)))
  else
  (rd ((4 : Int32) + x7) 24 fun j58 =>
  if (yy j58) ≤ 0 then
  (FL_push_167 yy gg rl A2 A3 x5 x6 x7 e (0 : Int32))
  else
  (FL_push_167 yy gg rl A2 A3 x5 x6 x7 e (1 : Int32))))
theorem nI_nz {a b : Nat} (h : a < b) (hb : b < 2 ^ 31) : ¬ nI a = nI b := fun z => by
  have := (nI_eq (by omega) hb).mp z
  omega
theorem lp90_in {A2 : Nat → Int32} {A3 : Nat → Int64} {x5 x6 x7 : Int32} {r q h w : Nat} (hr : r < h) (hq : q < w) (hh : h ≤ 6) (hw : w ≤ 6) (h0 : yy 0 = nI h) (h1 : yy 1 = nI w) {s0 s1 : Int32} (hs : s1 + s0 = nI q) : FL_push_90 yy gg rl A2 A3 x5 x6 x7 (nI r) s0 s1 = Pr yy gg rl A2 A3 x5 x6 x7 (nI (r * w + q)) := by
  unfold FL_push_90
  rw [nm_eq, hs, rd1 (by decide) (by decide), h1, nm_eq, pk_mul, nI_add, if_neg (nI_pos (by omega)), rd0 (by decide) (by decide), h0, if_neg (nI_nz hr (by omega)), if_neg (nI_pos (by omega)), rd1 (by decide) (by decide), h1, if_neg (nI_nz hq (by omega))]
  rfl
theorem lp90_r0 {A2 : Nat → Int32} {A3 : Nat → Int64} {x5 x6 x7 s0 s1 : Int32} : FL_push_90 yy gg rl A2 A3 x5 x6 x7 (-1) s0 s1 = rl A2 A3 x5 x6 x7 0 := by
  unfold FL_push_90
  rw [nm_eq, rd1 (by decide) (by decide), nm_eq, if_pos (by decide)]
theorem lp90_r1 {A2 : Nat → Int32} {A3 : Nat → Int64} {x5 x6 x7 s0 s1 : Int32} {h : Nat} (hh : h ≤ 6) (h0 : yy 0 = nI h) : FL_push_90 yy gg rl A2 A3 x5 x6 x7 (nI h) s0 s1 = rl A2 A3 x5 x6 x7 0 := by
  unfold FL_push_90
  rw [nm_eq, rd1 (by decide) (by decide), nm_eq, if_neg (nI_pos (by omega)), rd0 (by decide) (by decide), h0, if_pos rfl]
theorem lp90_c0 {A2 : Nat → Int32} {A3 : Nat → Int64} {x5 x6 x7 s0 s1 : Int32} {r h : Nat} (hr : r < h) (hh : h ≤ 6) (h0 : yy 0 = nI h) (hs : s1 + s0 = -1) : FL_push_90 yy gg rl A2 A3 x5 x6 x7 (nI r) s0 s1 = rl A2 A3 x5 x6 x7 0 := by
  unfold FL_push_90
  rw [nm_eq, hs, rd1 (by decide) (by decide), nm_eq, if_neg (nI_pos (by omega)), rd0 (by decide) (by decide), h0, if_neg (nI_nz hr (by omega)), if_pos (by decide)]
theorem lp90_c1 {A2 : Nat → Int32} {A3 : Nat → Int64} {x5 x6 x7 s0 s1 : Int32} {r h w : Nat} (hr : r < h) (hh : h ≤ 6) (hw : w ≤ 6) (h0 : yy 0 = nI h) (h1 : yy 1 = nI w) (hs : s1 + s0 = nI w) : FL_push_90 yy gg rl A2 A3 x5 x6 x7 (nI r) s0 s1 = rl A2 A3 x5 x6 x7 0 := by
  unfold FL_push_90
  rw [nm_eq, hs, rd1 (by decide) (by decide), nm_eq, if_neg (nI_pos (by omega)), rd0 (by decide) (by decide), h0, if_neg (nI_nz hr (by omega)), if_neg (nI_pos (by omega)), rd1 (by decide) (by decide), h1, if_pos rfl]
/-- one step: to the cell beside, if there is one -/
theorem lp_step {Y : Yd} (hY : WFY Y) (h0 : yy 0 = nI (dh Y)) (h1 : yy 1 = nI (dw Y)) {A2 : Nat → Int32} {A3 : Nat → Int64} {k c d : Nat} (hk : k < 6) (hc : c < dn Y) (hd : d < 4) (hl : A2 k = nI c) (x6 : Int32) : BL_push_25 yy gg rl A2 A3 (nI d) x6 (nI k) 1 = match besN Y c d with
    | none => rl A2 A3 (nI d) x6 (nI k) 0
    | some e => Pr yy gg rl A2 A3 (nI d) x6 (nI k) (nI e) := by
  obtain ⟨hw, hy, hx, hm⟩ := cell_rc hc
  have h66 : dh Y ≤ 6 ∧ dw Y ≤ 6 := by rcases hY.1 with q | q <;> omega
  have h36 := dn_le hY
  unfold BL_push_25
  rw [if_neg (show ¬ (1 : Int32) = 0 by decide), rd_in hk (by decide), rd1 (by decide) (by decide), hl, h1, dzI_ok (nI_ne0 hw (by omega)), pk_div (by omega) hw (by omega)]
  have p58 : ∀ s0 : Int32, FL_push_58 yy gg rl A2 A3 (nI d) x6 (nI k) s0 (nI (c / dw Y)) = if nI d = (1 : Int32) then FL_push_90 yy gg rl A2 A3 (nI d) x6 (nI k) (nI (c / dw Y) + s0) 1 (nI (c % dw Y)) else if nI d = (3 : Int32) then FL_push_90 yy gg rl A2 A3 (nI d) x6 (nI k) (nI (c / dw Y) + s0) (-1) (nI (c % dw Y)) else FL_push_90 yy gg rl A2 A3 (nI d) x6 (nI k) (nI (c / dw Y) + s0) 0 (nI (c % dw Y)) := by
    intro s0
    unfold FL_push_58
    rw [nm_eq, rd_in hk (by decide), rd1 (by decide) (by decide), hl, h1, dzI_ok (nI_ne0 hw (by omega)), pk_md (by omega) hw (by omega)]
  rw [p58, p58, p58]
  generalize hyv : c / dw Y = y at *
  generalize hxv : c % dw Y = x at *
  rcases (show d = 0 ∨ d = 1 ∨ d = 2 ∨ d = 3 by omega) with rfl | rfl | rfl | rfl
  · rw [if_neg (show ¬ nI 0 = (2 : Int32) by decide), if_pos (show nI 0 = 0 from rfl), if_neg (show ¬ nI 0 = (1 : Int32) by decide), if_neg (show ¬ nI 0 = (3 : Int32) by decide), show besN Y c 0 = if 0 < c / dw Y then some (c - dw Y) else none from rfl, hyv]
    rcases m1_add y with ⟨rfl, e⟩ | ⟨m, rfl, e⟩
    · rw [e, lp90_r0, if_neg (Nat.lt_irrefl 0)]
    · rw [e, lp90_in (r := m) (q := x) (h := dh Y) (w := dw Y) (by omega) hx h66.1 h66.2 h0 h1 (i_add0 _), if_pos (Nat.succ_pos m)]
      show _ = Pr yy gg rl A2 A3 (nI 0) x6 (nI k) (nI (c - dw Y))
      rw [show m * dw Y + x = c - dw Y by rw [Nat.mul_add] at hm; rw [Nat.mul_comm m]; omega]
  · rw [if_neg (show ¬ nI 1 = (2 : Int32) by decide), if_neg (show ¬ nI 1 = (0 : Int32) by decide), if_pos (show nI 1 = (1 : Int32) from rfl), i_add0, show besN Y c 1 = if c % dw Y + 1 < dw Y then some (c + 1) else none from rfl, hxv]
    by_cases q : x + 1 < dw Y
    · rw [lp90_in (r := y) (q := x + 1) (h := dh Y) (w := dw Y) hy q h66.1 h66.2 h0 h1 (nI_1 x), if_pos q]
      show _ = Pr yy gg rl A2 A3 (nI 1) x6 (nI k) (nI (c + 1))
      rw [show y * dw Y + (x + 1) = c + 1 by rw [Nat.mul_comm]; omega]
    · rw [lp90_c1 (r := y) (h := dh Y) (w := dw Y) hy h66.1 h66.2 h0 h1 (by rw [nI_1, show x + 1 = dw Y by omega]), if_neg q]
  · rw [if_pos (show nI 2 = (2 : Int32) from rfl), if_neg (show ¬ nI 2 = (1 : Int32) by decide), if_neg (show ¬ nI 2 = (3 : Int32) by decide), nI_1, show besN Y c 2 = if c / dw Y + 1 < dh Y then some (c + dw Y) else none from rfl, hyv]
    by_cases q : y + 1 < dh Y
    · rw [lp90_in (r := y + 1) (q := x) (h := dh Y) (w := dw Y) q hx h66.1 h66.2 h0 h1 (i_add0 _), if_pos q]
      show _ = Pr yy gg rl A2 A3 (nI 2) x6 (nI k) (nI (c + dw Y))
      rw [show (y + 1) * dw Y + x = c + dw Y by rw [Nat.mul_comm, Nat.mul_add]; omega]
    · rw [if_neg q, show y + 1 = dh Y by omega, lp90_r1 h66.1 h0]
  · rw [if_neg (show ¬ nI 3 = (2 : Int32) by decide), if_neg (show ¬ nI 3 = (0 : Int32) by decide), if_neg (show ¬ nI 3 = (1 : Int32) by decide), if_pos (show nI 3 = (3 : Int32) from rfl), i_add0, show besN Y c 3 = if 0 < c % dw Y then some (c - 1) else none from rfl, hxv]
    rcases m1_add x with ⟨rfl, e⟩ | ⟨m, rfl, e⟩
    · rw [lp90_c0 (r := y) (h := dh Y) hy h66.1 h0 e, if_neg (Nat.lt_irrefl 0)]
    · rw [lp90_in (r := y) (q := m) (h := dh Y) (w := dw Y) hy (by omega) h66.1 h66.2 h0 h1 e, if_pos (Nat.succ_pos m)]
      show _ = Pr yy gg rl A2 A3 (nI 3) x6 (nI k) (nI (c - 1))
      rw [show y * dw Y + m = c - 1 by rw [Nat.mul_comm]; omega]
/-! what a step does to the block -/
theorem p331 {A2 : Nat → Int32} {A3 : Nat → Int64} {x5 s0 s1 x13 : Int32} {k : Nat} (hk : k < 6) : FL_push_331 yy gg rl A2 A3 x5 (nI k) x13 s0 s1 = if A2 k < 0 then rl A2 A3 x5 (s1 ||| s0) (nI k) 0 else if x13 = 0 then rl A2 A3 x5 (s1 ||| s0) (nI k) 1 else if yy (4 + k) = 2 then rl A2 A3 x5 (s1 ||| s0) (nI k) 1 else rl A2 A3 x5 (s1 ||| s0) (nI k) 0 := by
  unfold FL_push_331
  rw [nm_eq, rd_in hk (by decide), show (4 : Int32) + nI k = nI (4 + k) by rw [show (4 : Int32) = nI 4 from rfl, nI_add], rd_in (by omega) (by decide)]
theorem p307 {A2 : Nat → Int32} {A3 : Nat → Int64} {x5 x6 x13 : Int32} {k e : Nat} (he : e < 36) (v w : Int64) : FL_push_307 yy gg rl A2 A3 x5 x6 (nI k) (nI e) x13 v w 0 = if gg e ≤ 3 then FL_push_331 yy gg rl A2 (vp_updL A3 0 (w ||| v)) x5 (nI k) x13 0 x6 else FL_push_331 yy gg rl A2 (vp_updL A3 0 (w ||| v)) x5 (nI k) x13 ((1 : Int32) <<< ((gg e - (4 : Int32)) &&& 31)) x6 := by
  unfold FL_push_307
  rw [stB0 (by decide) (by decide), rd_in he (by decide), rd_in he (by decide)]
theorem p289 {A2 : Nat → Int32} {A3 : Nat → Int64} {x5 x6 x12 x13 s0 : Int32} {k e : Nat} (hk : k < 6) : FL_push_289 yy gg rl A2 A3 x5 x6 (nI k) (nI e) x12 x13 s0 (nI k) = if x12 = 0 then FL_push_307 yy gg rl (upd A2 k s0) A3 x5 x6 (nI k) (nI e) x13 0 (A3 0) 0 else FL_push_307 yy gg rl (upd A2 k s0) A3 x5 x6 (nI k) (nI e) x13 ((1 : Int64) <<< ((nI e).toInt64 &&& 63)) (A3 0) 0 := by
  unfold FL_push_289
  rw [stA_in hk (by decide), rd0 (by decide) (by decide)]
theorem p254_0 {A2 : Nat → Int32} {A3 : Nat → Int64} {x5 x6 s0 : Int32} {k e : Nat} (he : e < 36) : FL_push_254 yy gg rl A2 A3 x5 x6 (nI k) (nI e) 0 s0 = if gg e ≤ 3 then FL_push_289 yy gg rl A2 A3 x5 x6 (nI k) (nI e) 0 s0 (nI e) (nI k) else FL_push_289 yy gg rl A2 A3 x5 x6 (nI k) (nI e) 0 s0 ((-16 : Int32) - gg e) (nI k) := by
  unfold FL_push_254
  rw [if_pos rfl, rd_in he (by decide), rd_in he (by decide)]
theorem p226 {A2 : Nat → Int32} {A3 : Nat → Int64} {x5 x6 s0 : Int32} {k e : Nat} (he : e < 36) : FL_push_226 yy gg rl A2 A3 x5 x6 (nI k) (nI e) s0 = if gg e = 2 ∨ bit64 (A3 2) e = true then FL_push_254 yy gg rl A2 A3 x5 x6 (nI k) (nI e) s0 1 else FL_push_254 yy gg rl A2 A3 x5 x6 (nI k) (nI e) s0 0 := by
  unfold FL_push_226
  rw [rd_in he (by decide), rd2 (by decide) (by decide)]
  by_cases h : gg e = 2
  · rw [if_pos h, if_pos (.inl h)]
  · rw [if_neg h]
    by_cases h2 : bit64 (A3 2) e = true
    · rw [if_pos ((hs1_1 _ (by omega)).mpr h2), if_pos (.inr h2)]
    · rw [if_neg (fun z => h2 ((hs1_1 _ (by omega)).mp z)), if_neg (fun z => z.elim h h2)]
/-- into a crack -/
theorem p_crk {A2 : Nat → Int32} {A3 : Nat → Int64} {x5 : Int32} {k e : Nat} (hk : k < 6) (he : e < 36) (hg : gg e = 3) : FL_push_226 yy gg rl A2 A3 x5 0 (nI k) (nI e) 1 = rl (upd A2 k (-6)) (vp_updL A3 0 (A3 0 ||| ((1 : Int64) <<< ((nI e).toInt64 &&& 63)))) x5 0 (nI k) 0 := by
  have go : ∀ s0 : Int32, FL_push_254 yy gg rl A2 A3 x5 0 (nI k) (nI e) 1 s0 = rl (upd A2 k (-6)) (vp_updL A3 0 (A3 0 ||| ((1 : Int64) <<< ((nI e).toInt64 &&& 63)))) x5 0 (nI k) 0 := by
    intro s0
    unfold FL_push_254
    rw [if_neg (show ¬ (1 : Int32) = 0 by decide), p289 hk, if_neg (show ¬ (1 : Int32) = 0 by decide), p307 he, hg, if_pos (by decide), p331 hk, show upd A2 k (-6) k = -6 from upd_eq, if_pos (by decide)]
    rfl
  rw [p226 he, go, go]
  split <;> rfl
/-- home by a gate -/
theorem p_hom {A2 : Nat → Int32} {A3 : Nat → Int64} {x5 : Int32} {k e g : Nat} (hk : k < 6) (he : e < 36) (hg2 : g < 2) (hg : gg e = nI (4 + g)) : FL_push_226 yy gg rl A2 A3 x5 0 (nI k) (nI e) 0 = rl (upd A2 k (lieI (37 + g))) (vp_updL A3 0 (A3 0 ||| 0)) x5 (nI (2 ^ g)) (nI k) 0 := by
  have hn : ¬ nI (4 + g) ≤ (3 : Int32) := nI_ge (a := 3) (by omega) (by omega)
  have q := (by decide +kernel : ∀ g, g < 2 → ((-16 : Int32) - nI (4 + g)) = lieI (37 + g) ∧ (0 : Int32) ||| ((1 : Int32) <<< ((nI (4 + g) - (4 : Int32)) &&& 31)) = nI (2 ^ g) ∧ lieI (37 + g) < 0) g hg2
  have go : ∀ s0 : Int32, FL_push_254 yy gg rl A2 A3 x5 0 (nI k) (nI e) 0 s0 = rl (upd A2 k (lieI (37 + g))) (vp_updL A3 0 (A3 0 ||| 0)) x5 (nI (2 ^ g)) (nI k) 0 := by
    intro s0
    rw [p254_0 he, hg, if_neg hn, q.1, p289 hk, if_pos rfl, p307 he, hg, if_neg hn, p331 hk, show upd A2 k (lieI (37 + g)) k = lieI (37 + g) from upd_eq, if_pos q.2.2, q.2.1]
  rw [p226 he, go, go]
  split <;> rfl
/-- on ice, on sand, on a filled crack -/
theorem p_ice {A2 : Nat → Int32} {A3 : Nat → Int64} {x5 : Int32} {k e g kd : Nat} (hk : k < 6) (he : e < 36) (hg3 : g ≤ 3) (hg : gg e = nI g) (hkd : kd ≤ 2) (hy : yy (4 + k) = nI kd) : FL_push_226 yy gg rl A2 A3 x5 0 (nI k) (nI e) 0 = rl (upd A2 k (nI e)) (vp_updL A3 0 (A3 0 ||| 0)) x5 0 (nI k) (if (g = 2 ∨ bit64 (A3 2) e = true) ∧ kd < 2 then 0 else 1) := by
  have hn : nI g ≤ (3 : Int32) := nI_le (b := 3) hg3 (by decide)
  have g2 : gg e = 2 ↔ g = 2 := by rw [hg]; exact nI_eq (b := 2) (by omega) (by decide)
  have k2 : yy (4 + k) = 2 ↔ kd = 2 := by rw [hy]; exact nI_eq (b := 2) (by omega) (by decide)
  have go : ∀ s0 : Int32, FL_push_254 yy gg rl A2 A3 x5 0 (nI k) (nI e) 0 s0 = if s0 = 0 then rl (upd A2 k (nI e)) (vp_updL A3 0 (A3 0 ||| 0)) x5 0 (nI k) 1 else if kd = 2 then rl (upd A2 k (nI e)) (vp_updL A3 0 (A3 0 ||| 0)) x5 0 (nI k) 1 else rl (upd A2 k (nI e)) (vp_updL A3 0 (A3 0 ||| 0)) x5 0 (nI k) 0 := by
    intro s0
    rw [p254_0 he, hg, if_pos hn, p289 hk, if_pos rfl, p307 he, hg, if_pos hn, p331 hk, show upd A2 k (nI e) k = nI e from upd_eq, if_neg (nI_pos (by omega)), show (0 : Int32) ||| 0 = 0 by decide]
    by_cases h : s0 = 0
    · rw [if_pos h, if_pos h]
    · rw [if_neg h, if_neg h]
      by_cases h2 : kd = 2
      · rw [if_pos (k2.mpr h2), if_pos h2]
      · rw [if_neg (fun z => h2 (k2.mp z)), if_neg h2]
  rw [p226 he, go, go, if_neg (show ¬ (1 : Int32) = 0 by decide), if_pos rfl]
  by_cases h : g = 2 ∨ bit64 (A3 2) e = true
  · rw [if_pos (h.imp g2.mpr id)]
    by_cases h2 : kd = 2
    · rw [if_pos h2, if_neg (fun z => by omega)]
    · rw [if_neg h2, if_pos ⟨h, by omega⟩]
  · rw [if_neg (fun z => h (z.imp g2.mp id)), if_neg (fun z => h z.1)]
end LP
/-! what is kept -/
theorem lq_1 {Y : Yd} {T : Nat → Bool} {D : Dy} {tr : Nat → Bool} {l : Nat → Int32} {s : Nat → Int64} (h : LQ Y T D tr l s) {e : Nat} (he : e < 64) : LQ Y T D (adT tr e) l (vp_updL s 1 (s 1 ||| ((1 : Int64) <<< ((nI e).toInt64 &&& 63)))) := by
  refine ⟨by rw [uL_ne (by decide)]; exact h.1, fun i => ?_, fun i => by rw [uL_ne (by decide)]; exact h.2.2 i⟩
  rw [uL_eq, w_or, w_one he, h.2.1]
  rfl
theorem lq_0 {Y : Yd} {T : Nat → Bool} {D : Dy} {tr : Nat → Bool} {l : Nat → Int32} {s : Nat → Int64} (h : LQ Y T D tr l s) : LQ Y T D tr l (vp_updL s 0 (s 0 ||| 0)) := by
  refine ⟨⟨h.1.1, fun i => ?_⟩, fun i => by rw [uL_ne (by decide)]; exact h.2.1 i, fun i => by rw [uL_ne (by decide)]; exact h.2.2 i⟩
  rw [uL_eq, w_or, w_0, Bool.or_false]
  exact h.1.2 i
theorem lq_c {Y : Yd} {T : Nat → Bool} {D : Dy} {tr : Nat → Bool} {l : Nat → Int32} {s : Nat → Int64} (h : LQ Y T D tr l s) {e : Nat} (he : e < dn Y) (h64 : e < 64) (h3 : dg Y e = 3) : LQ Y T (filC D e) tr l (vp_updL s 0 (s 0 ||| ((1 : Int64) <<< ((nI e).toInt64 &&& 63)))) := by
  refine ⟨⟨h.1.1, fun i => ?_⟩, fun i => by rw [uL_ne (by decide)]; exact h.2.1 i, fun i => by rw [uL_ne (by decide)]; exact h.2.2 i⟩
  rw [uL_eq, w_or, w_one h64, h.1.2]
  show (decide (i < dn Y) && dg Y i == 3 && D.2 i || decide (i = e)) = (decide (i < dn Y) && dg Y i == 3 && (i == e || D.2 i))
  by_cases q : i = e
  · subst q; rw [decide_eq_true he, h3]; simp
  · rw [decide_eq_false q, beq_false_of_ne q]; simp
theorem lq_l {Y : Yd} {T : Nat → Bool} {D : Dy} {tr : Nat → Bool} {l : Nat → Int32} {s : Nat → Int64} (h : LQ Y T D tr l s) {k : Nat} (p : Nat) (hk : k < db Y) : LQ Y T (setPl D k p) tr (upd l k (lieI p)) s := by
  refine ⟨⟨fun j hj => ?_, h.1.2⟩, h.2⟩
  show upd l k (lieI p) j = lieI (if j < db Y then (if j = k then p else D.1 j) else pad Y)
  have hold := h.1.1 j hj
  unfold plM at hold
  by_cases e : j = k
  · subst e; rw [if_pos hk, if_pos rfl, upd_eq]
  · rw [if_neg e, upd_ne e]; exact hold

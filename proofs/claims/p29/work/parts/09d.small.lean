-- who
abbrev mL_who : MQD := (cL_who, 3, (some .int), 1, 0)
noncomputable def BL_who_2 (ll : Nat → Int32) (rl2 : Int32 → Int32 → Option (Int32)) (x1 : Int32) (x2 : Int32) : Option (Int32) :=
  if (6 : Int32) ≤ x2 then
  (some (-1 : Int32))
  else
  (rd x2 6 fun j3 =>
  if (ll j3) = x1 then
  (some x2)
  else
  (nm (x2 + (1 : Int32)) fun x_4 =>
  rl2 x1 x_4))
set_option maxHeartbeats 4000000 in
set_option maxRecDepth 100000 in
theorem jL_who_2 {Y : QX} {out : Int32} (ll : Nat → Int32) (hE : EndQ Y mL_who .ireturn [0] none [.inl (6, ll)] (fun _ => [.int out])) (rl2 : Int32 → Int32 → Option (Int32)) (hr2 : ∀ (x1 : Int32) (x2 : Int32), rl2 x1 x2 = some out → JQ Y mL_who (none) [0] [.inl (6, ll)] 0 2 (fun b => [(0, .ref (b 0)), (1, .int x1), (2, .int x2)]) (fun _ => [])) (x1 : Int32) (x2 : Int32) (h : BL_who_2 ll rl2 x1 x2 = some out) : JQ Y mL_who (none) [0] [.inl (6, ll)] 0 2 (fun b => [(0, .ref (b 0)), (1, .int x1), (2, .int x2)]) (fun _ => []) := by
  refine q_iload_n 2 dL_who_2 rfl rfl (fun _ => rfl) ?_
  refine q_bipush dL_who_3 rfl kb_6 ?_
  refine q_icmp_ge dL_who_5 rfl rfl h (fun c h => ?_) (fun c h => ?_)
  · refine q_iconst dL_who_23 rfl ki_m1 ?_
    cases h
    exact hE _ _ _ dL_who_24
  · refine q_aload_n 0 (fun b => b 0) dL_who_8 rfl rfl (fun _ => rfl) ?_
    refine q_iload_n 2 dL_who_9 rfl rfl (fun _ => rfl) ?_
    refine q_iald 0 6 ll rfl dL_who_10 rfl h (fun j3 h => ?_)
    refine q_iload_n 1 dL_who_11 rfl rfl (fun _ => rfl) ?_
    refine q_icmp_ne dL_who_12 rfl rfl h (fun c h => ?_) (fun c h => ?_)
    · refine q_iinc 2 (fun x_4 => (fun b => [(2, .int x_4), (0, .ref (b 0)), (1, .int x1)])) dL_who_17 rfl (fun _ => rfl) ki_1 (show 2 < 3 by decide) (fun _ _ => rfl) h (fun x_4 h => ?_)
      refine q_goto dL_who_20 rfl ?_
      refine q_sub [1, 2, 0] (fun b => [(0, .ref (b 0)), (1, .int x1), (2, .int x_4)]) (fun _ => rfl) ?_
      exact hr2 x1 x_4 h
    · refine q_iload_n 2 dL_who_15 rfl rfl (fun _ => rfl) ?_
      cases h
      exact hE _ _ _ dL_who_16
noncomputable def FL_who_2 (ll : Nat → Int32) (fu : Nat) : Int32 → Int32 → Option (Int32) :=
  Nat.rec (fun _ _ => none) (fun _ ih => BL_who_2 ll ih) fu
theorem lL_who_2 {Y : QX} {out : Int32} (ll : Nat → Int32) (hE : EndQ Y mL_who .ireturn [0] none [.inl (6, ll)] (fun _ => [.int out])) : ∀ (fu : Nat) (x1 : Int32) (x2 : Int32), FL_who_2 ll fu x1 x2 = some out → JQ Y mL_who (none) [0] [.inl (6, ll)] 0 2 (fun b => [(0, .ref (b 0)), (1, .int x1), (2, .int x2)]) (fun _ => []) := by
  intro fu
  induction fu with
  | zero => intro x1 x2 h; exact nn h
  | succ fu ih => intro x1 x2 h; exact jL_who_2 ll hE (FL_who_2 ll fu) ih x1 x2 h
noncomputable def FL_who (ll : Nat → Int32) (a1 : Int32) : Option (Int32) :=
  FL_who_2 ll FU a1 (0 : Int32)
set_option maxHeartbeats 4000000 in
set_option maxRecDepth 100000 in
theorem eL_who {Y : QX} {out : Int32} (ll : Nat → Int32) (hE : EndQ Y mL_who .ireturn [0] none [.inl (6, ll)] (fun _ => [.int out])) (a1 : Int32) (h : FL_who ll a1 = some out) : JQ Y mL_who (none) [0] [.inl (6, ll)] 0 0 (fun b => [(0, .ref (b 0)), (1, .int a1)]) (fun _ => []) := by
  refine q_iconst dL_who_0 rfl ki_0 ?_
  refine q_istoreV_n (fun b => [(2, .int (0 : Int32)), (0, .ref (b 0)), (1, .int a1)]) dL_who_1 rfl rfl (show 2 < 3 by decide) (fun _ => rfl) ?_
  refine q_sub [1, 2, 0] (fun b => [(0, .ref (b 0)), (1, .int a1), (2, .int (0 : Int32))]) (fun _ => rfl) ?_
  exact lL_who_2 ll hE FU a1 (0 : Int32) h
theorem coL_who {L : Nat} {xs : Nat → Int32} (ll : Nat → Int32) (a1 : Int32) (o : Int32) (h : FL_who ll a1 = some o) : ConQ .ireturn 1 0 yL_who cL_who 3 (some .int) L xs (fun b ad b0 => [.ref (b 0), .int a1]) [.inl (6, ll)] none (fun _ => .int o) [.inl (6, ll)] none :=
  conQ_of (by decide +kernel) rfl (fun _ _ _ => Nat.le_of_ble_eq_true rfl) (Or.inl ⟨rfl, Or.inl ⟨rfl, fun _ => ⟨_, rfl⟩⟩⟩) (fun Y hL hx hE => by
    subst hL; subst hx
    exact eL_who ll hE a1 h)
-- cell
abbrev mL_cell : MQD := (cL_cell, 2, (some .int), 1, 0)
noncomputable def FL_cell (L : Nat) (xs : Nat → Int32) (a1 : Int32) : Option (Int32) :=
  if (Int32.ofNat L) ≤ a1 then
  (some (((15485863 : Int32) * a1) + (977 : Int32)))
  else
  (rd a1 L fun j2 =>
  some (xs j2))
set_option maxHeartbeats 4000000 in
set_option maxRecDepth 100000 in
theorem eL_cell {Y : QX} {out : Int32} (hE : EndQ Y mL_cell .ireturn [] none [] (fun _ => [.int out])) (a1 : Int32) (h : FL_cell (qL Y) (qs Y) a1 = some out) : JQ Y mL_cell (none) [] [] 0 0 (fun _ => [(0, .ref (qb Y)), (1, .int a1)]) (fun _ => []) := by
  refine q_iload_n 1 dL_cell_0 rfl rfl (fun _ => rfl) ?_
  refine q_aload_n 0 (fun _ => qb Y) dL_cell_1 rfl rfl (fun _ => rfl) ?_
  refine q_slen dL_cell_2 rfl ?_
  refine q_icmp_ge dL_cell_3 rfl rfl h (fun c h => ?_) (fun c h => ?_)
  · refine q_ldc dL_cell_12 rfl qc_7 ?_
    refine q_iload_n 1 dL_cell_14 rfl rfl (fun _ => rfl) ?_
    refine q_imul dL_cell_15 rfl ?_
    refine q_sipush dL_cell_16 rfl ks_977 ?_
    refine q_iadd dL_cell_19 rfl ?_
    cases h
    exact hE _ _ _ dL_cell_20
  · refine q_aload_n 0 (fun _ => qb Y) dL_cell_6 rfl rfl (fun _ => rfl) ?_
    refine q_iload_n 1 dL_cell_7 rfl rfl (fun _ => rfl) ?_
    refine q_sld dL_cell_8 rfl h (fun j2 h => ?_)
    refine q_goto dL_cell_9 rfl ?_
    cases h
    exact hE _ _ _ dL_cell_20
theorem coL_cell (L : Nat) (xs : Nat → Int32) (a1 : Int32) (o : Int32) (h : FL_cell L xs a1 = some o) : ConQ .ireturn 1 0 yL_cell cL_cell 2 (some .int) L xs (fun b ad b0 => [.ref b0, .int a1]) [] none (fun _ => .int o) [] none :=
  conQ_of (by decide +kernel) rfl (fun _ _ _ => Nat.le_of_ble_eq_true rfl) (Or.inl ⟨rfl, Or.inl ⟨rfl, fun _ => ⟨_, rfl⟩⟩⟩) (fun Y hL hx hE => by
    subst hL; subst hx
    exact eL_cell hE a1 h)
-- low
abbrev mL_low : MQD := (cL_low, 2, (some .int), 1, 0)
noncomputable def FL_low (a0 : Int32) (a1 : Int32) : Option (Int32) :=
  dzI a1 <|
  some ((a0 &&& (2147483647 : Int32)) - (a0 &&& (2147483647 : Int32)) / a1 * a1)
set_option maxHeartbeats 4000000 in
set_option maxRecDepth 100000 in
theorem eL_low {Y : QX} {out : Int32} (hE : EndQ Y mL_low .ireturn [] none [] (fun _ => [.int out])) (a0 : Int32) (a1 : Int32) (h : FL_low a0 a1 = some out) : JQ Y mL_low (none) [] [] 0 0 (fun _ => [(0, .int a0), (1, .int a1)]) (fun _ => []) := by
  refine q_iload_n 0 dL_low_0 rfl rfl (fun _ => rfl) ?_
  refine q_ldc dL_low_1 rfl qc_8 ?_
  refine q_iand dL_low_3 rfl ?_
  refine q_iload_n 1 dL_low_4 rfl rfl (fun _ => rfl) ?_
  refine q_irem dL_low_5 rfl h (fun h => ?_)
  cases h
  exact hE _ _ _ dL_low_6
theorem coL_low {L : Nat} {xs : Nat → Int32} (a0 : Int32) (a1 : Int32) (o : Int32) (h : FL_low a0 a1 = some o) : ConQ .ireturn 1 0 yL_low cL_low 2 (some .int) L xs (fun b ad b0 => [.int a0, .int a1]) [] none (fun _ => .int o) [] none :=
  conQ_of (by decide +kernel) rfl (fun _ _ _ => Nat.le_of_ble_eq_true rfl) (Or.inl ⟨rfl, Or.inl ⟨rfl, fun _ => ⟨_, rfl⟩⟩⟩) (fun Y hL hx hE => by
    subst hL; subst hx
    exact eL_low hE a0 a1 h)
-- free
abbrev mL_free : MQD := (cL_free, 3, (some .boolean), 2, 0)
noncomputable def FL_free (gg : Nat → Int32) (ll : Nat → Int32) (a2 : Int32) : Option (Int32) :=
  rd a2 36 fun j3 =>
  if (gg j3) = 0 then
  (bn (FL_who ll a2) fun o4 =>
  if 0 ≤ o4 then
  (some (0 : Int32))
  else
  (some (1 : Int32)))
  else
  (some (0 : Int32))
set_option maxHeartbeats 4000000 in
set_option maxRecDepth 100000 in
theorem eL_free {Y : QX} {out : Int32} (gg : Nat → Int32) (ll : Nat → Int32) (hE : EndQ Y mL_free .ireturn [0, 1] none [.inl (36, gg), .inl (6, ll)] (fun _ => [.int out])) (a2 : Int32) (h : FL_free gg ll a2 = some out) : JQ Y mL_free (none) [0, 1] [.inl (36, gg), .inl (6, ll)] 0 0 (fun b => [(0, .ref (b 0)), (1, .ref (b 1)), (2, .int a2)]) (fun _ => []) := by
  refine q_aload_n 0 (fun b => b 0) dL_free_0 rfl rfl (fun _ => rfl) ?_
  refine q_iload_n 2 dL_free_1 rfl rfl (fun _ => rfl) ?_
  refine q_iald 0 36 gg rfl dL_free_2 rfl h (fun j3 h => ?_)
  refine q_if_ne dL_free_3 rfl rfl h (fun c h => ?_) (fun c h => ?_)
  · refine q_iconst dL_free_18 rfl ki_0 ?_
    cases h
    exact hE _ _ _ dL_free_19
  · refine q_aload_n 1 (fun b => b 1) dL_free_6 rfl rfl (fun _ => rfl) ?_
    refine q_iload_n 2 dL_free_7 rfl rfl (fun _ => rfl) ?_
    obtain ⟨o4, hc, h⟩ := bn_of h
    refine q_call [.inl (36, gg)] 1 (fun b => [.ref (b 1), .int a2]) (fun _ => []) (coL_who ll a2 o4 hc) rfl rfl rfl ms_RL_29 (by decide) (Or.inl rfl) (fun _ => rfl) (fun _ => rfl) (fun _ => rfl) (fun _ => Nat.le_of_ble_eq_true rfl) dL_free_8 rfl ?_
    show JQ Y mL_free (none) [0, 1] [.inl (36, gg), .inl (6, ll)] _ 11 (fun b => [(0, .ref (b 0)), (1, .ref (b 1)), (2, .int a2)]) (fun _ => [.int o4])
    refine q_if_ge dL_free_11 rfl rfl h (fun c h => ?_) (fun c h => ?_)
    · refine q_iconst dL_free_18 rfl ki_0 ?_
      cases h
      exact hE _ _ _ dL_free_19
    · refine q_iconst dL_free_14 rfl ki_1 ?_
      refine q_goto dL_free_15 rfl ?_
      cases h
      exact hE _ _ _ dL_free_19
theorem coL_free {L : Nat} {xs : Nat → Int32} (gg : Nat → Int32) (ll : Nat → Int32) (a2 : Int32) (o : Int32) (h : FL_free gg ll a2 = some o) (hz : o = 0 ∨ o = 1) : ConQ .ireturn 2 0 yL_free cL_free 3 (some .boolean) L xs (fun b ad b0 => [.ref (b 0), .ref (b 1), .int a2]) [.inl (36, gg), .inl (6, ll)] none (fun _ => .int o) [.inl (36, gg), .inl (6, ll)] none :=
  conQ_of (by decide +kernel) rfl (fun _ _ _ => Nat.le_of_ble_eq_true rfl) (Or.inl ⟨rfl, Or.inr ⟨rfl, fun _ => hz.imp (fun z => congrArg Value.int z) (fun z => congrArg Value.int z)⟩⟩) (fun Y hL hx hE => by
    subst hL; subst hx
    exact eL_free gg ll hE a2 h)
-- push
abbrev mL_push : MQD := (cL_push, 14, (some .int), 2, 0)
noncomputable def FL_push_331 (yy : Nat → Int32) (gg : Nat → Int32) (rl25 : (Nat → Int32) → (Nat → Int64) → Int32 → Int32 → Int32 → Int32 → Option (Int32 × (Nat → Int32) × (Nat → Int64))) (A2 : Nat → Int32) (A3 : Nat → Int64) (x5 : Int32) (x7 : Int32) (x13 : Int32) (s0 : Int32) (s1 : Int32) : Option (Int32 × (Nat → Int32) × (Nat → Int64)) :=
  nm (s1 ||| s0) fun x_34 =>
  rd x7 6 fun j35 =>
  if (A2 j35) < 0 then
  (rl25 A2 A3 x5 x_34 x7 (0 : Int32))
  else
  (if x13 = 0 then
  (rl25 A2 A3 x5 x_34 x7 (1 : Int32))
  else
  (rd ((4 : Int32) + x7) 24 fun j36 =>
  if (yy j36) = (2 : Int32) then
  (rl25 A2 A3 x5 x_34 x7 (1 : Int32))
  else
  (rl25 A2 A3 x5 x_34 x7 (0 : Int32))))
set_option maxHeartbeats 4000000 in
set_option maxRecDepth 100000 in
theorem jL_push_331 {Y : QX} {out : Int32 × (Nat → Int32) × (Nat → Int64)} (yy : Nat → Int32) (gg : Nat → Int32) (hE : EndQ Y mL_push .ireturn [0, 1, 2, 3] none [.inl (24, yy), .inl (36, gg), .inl (6, out.2.1), .inr (3, out.2.2)] (fun _ => [.int out.1])) (rl25 : (Nat → Int32) → (Nat → Int64) → Int32 → Int32 → Int32 → Int32 → Option (Int32 × (Nat → Int32) × (Nat → Int64))) (hr25 : ∀ (A2 : Nat → Int32) (A3 : Nat → Int64) (x5 : Int32) (x6 : Int32) (x7 : Int32) (x8 : Int32), rl25 A2 A3 x5 x6 x7 x8 = some out → JQ Y mL_push (none) [0, 1, 2, 3] [.inl (24, yy), .inl (36, gg), .inl (6, A2), .inr (3, A3)] 0 25 (fun b => [(0, .ref (b 0)), (1, .ref (b 1)), (2, .ref (b 2)), (3, .ref (b 3)), (5, .int x5), (6, .int x6), (7, .int x7), (8, .int x8)]) (fun _ => [])) (A2 : Nat → Int32) (A3 : Nat → Int64) (x5 : Int32) (x7 : Int32) (x13 : Int32) (s0 : Int32) (s1 : Int32) (h : FL_push_331 yy gg rl25 A2 A3 x5 x7 x13 s0 s1 = some out) : JQ Y mL_push (none) [0, 1, 2, 3] [.inl (24, yy), .inl (36, gg), .inl (6, A2), .inr (3, A3)] 0 331 (fun b => [(0, .ref (b 0)), (1, .ref (b 1)), (2, .ref (b 2)), (3, .ref (b 3)), (5, .int x5), (7, .int x7), (13, .int x13)]) (fun _ => [.int s0, .int s1]) := by
  refine q_ior dL_push_331 rfl ?_
  refine q_istore (fun x_34 => (fun b => [(6, .int x_34), (0, .ref (b 0)), (1, .ref (b 1)), (2, .ref (b 2)), (3, .ref (b 3)), (5, .int x5), (7, .int x7), (13, .int x13)])) dL_push_332 rfl (show 6 < 14 by decide) (fun _ _ => rfl) h (fun x_34 h => ?_)
  refine q_aload_n 3 (fun b => b 2) dL_push_334 rfl rfl (fun _ => rfl) ?_
  refine q_iload 6 dL_push_335 rfl (fun _ => rfl) ?_
  refine q_iald 2 6 A2 rfl dL_push_337 rfl h (fun j35 h => ?_)
  refine q_if_lt dL_push_338 rfl rfl h (fun c h => ?_) (fun c h => ?_)
  · refine q_iconst dL_push_360 rfl ki_0 ?_
    refine q_istoreV (fun b => [(8, .int (0 : Int32)), (6, .int x_34), (0, .ref (b 0)), (1, .ref (b 1)), (2, .ref (b 2)), (3, .ref (b 3)), (5, .int x5), (7, .int x7), (13, .int x13)]) dL_push_361 rfl (show 8 < 14 by decide) (fun _ => rfl) ?_
    refine q_goto dL_push_363 rfl ?_
    refine q_sub [2, 3, 4, 5, 6, 1, 7, 0] (fun b => [(0, .ref (b 0)), (1, .ref (b 1)), (2, .ref (b 2)), (3, .ref (b 3)), (5, .int x5), (6, .int x_34), (7, .int x7), (8, .int (0 : Int32))]) (fun _ => rfl) ?_
    exact hr25 A2 A3 x5 x_34 x7 (0 : Int32) h
  · refine q_iload 7 dL_push_341 rfl (fun _ => rfl) ?_
    refine q_if_eq dL_push_343 rfl rfl h (fun c h => ?_) (fun c h => ?_)
    · refine q_iconst dL_push_356 rfl ki_1 ?_
      refine q_goto dL_push_357 rfl ?_
      refine q_istoreV (fun b => [(8, .int (1 : Int32)), (6, .int x_34), (0, .ref (b 0)), (1, .ref (b 1)), (2, .ref (b 2)), (3, .ref (b 3)), (5, .int x5), (7, .int x7), (13, .int x13)]) dL_push_361 rfl (show 8 < 14 by decide) (fun _ => rfl) ?_
      refine q_goto dL_push_363 rfl ?_
      refine q_sub [2, 3, 4, 5, 6, 1, 7, 0] (fun b => [(0, .ref (b 0)), (1, .ref (b 1)), (2, .ref (b 2)), (3, .ref (b 3)), (5, .int x5), (6, .int x_34), (7, .int x7), (8, .int (1 : Int32))]) (fun _ => rfl) ?_
      exact hr25 A2 A3 x5 x_34 x7 (1 : Int32) h
    · refine q_aload_n 1 (fun b => b 0) dL_push_346 rfl rfl (fun _ => rfl) ?_
      refine q_iconst dL_push_347 rfl ki_4 ?_
      refine q_iload 6 dL_push_348 rfl (fun _ => rfl) ?_
      refine q_iadd dL_push_350 rfl ?_
      refine q_iald 0 24 yy rfl dL_push_351 rfl h (fun j36 h => ?_)
      refine q_iconst dL_push_352 rfl ki_2 ?_
      refine q_icmp_ne dL_push_353 rfl rfl h (fun c h => ?_) (fun c h => ?_)
      · refine q_iconst dL_push_360 rfl ki_0 ?_
        refine q_istoreV (fun b => [(8, .int (0 : Int32)), (6, .int x_34), (0, .ref (b 0)), (1, .ref (b 1)), (2, .ref (b 2)), (3, .ref (b 3)), (5, .int x5), (7, .int x7), (13, .int x13)]) dL_push_361 rfl (show 8 < 14 by decide) (fun _ => rfl) ?_
        refine q_goto dL_push_363 rfl ?_
        refine q_sub [2, 3, 4, 5, 6, 1, 7, 0] (fun b => [(0, .ref (b 0)), (1, .ref (b 1)), (2, .ref (b 2)), (3, .ref (b 3)), (5, .int x5), (6, .int x_34), (7, .int x7), (8, .int (0 : Int32))]) (fun _ => rfl) ?_
        exact hr25 A2 A3 x5 x_34 x7 (0 : Int32) h
      · refine q_iconst dL_push_356 rfl ki_1 ?_
        refine q_goto dL_push_357 rfl ?_
        refine q_istoreV (fun b => [(8, .int (1 : Int32)), (6, .int x_34), (0, .ref (b 0)), (1, .ref (b 1)), (2, .ref (b 2)), (3, .ref (b 3)), (5, .int x5), (7, .int x7), (13, .int x13)]) dL_push_361 rfl (show 8 < 14 by decide) (fun _ => rfl) ?_
        refine q_goto dL_push_363 rfl ?_
        refine q_sub [2, 3, 4, 5, 6, 1, 7, 0] (fun b => [(0, .ref (b 0)), (1, .ref (b 1)), (2, .ref (b 2)), (3, .ref (b 3)), (5, .int x5), (6, .int x_34), (7, .int x7), (8, .int (1 : Int32))]) (fun _ => rfl) ?_
        exact hr25 A2 A3 x5 x_34 x7 (1 : Int32) h
noncomputable def FL_push_307 (yy : Nat → Int32) (gg : Nat → Int32) (rl25 : (Nat → Int32) → (Nat → Int64) → Int32 → Int32 → Int32 → Int32 → Option (Int32 × (Nat → Int32) × (Nat → Int64))) (A2 : Nat → Int32) (A3 : Nat → Int64) (x5 : Int32) (x6 : Int32) (x7 : Int32) (x11 : Int32) (x13 : Int32) (s0 : Int64) (s1 : Int64) (s2 : Int32) : Option (Int32 × (Nat → Int32) × (Nat → Int64)) :=
  stB s2 3 A3 (s1 ||| s0) fun f37 =>
  rd x11 36 fun j38 =>
  if (gg j38) ≤ (3 : Int32) then
  (FL_push_331 yy gg rl25 A2 f37 x5 x7 x13 (0 : Int32) x6)
  else
  (rd x11 36 fun j39 =>
  FL_push_331 yy gg rl25 A2 f37 x5 x7 x13 ((1 : Int32) <<< (((gg j39) - (4 : Int32)) &&& 31)) x6)
set_option maxHeartbeats 4000000 in
set_option maxRecDepth 100000 in
theorem jL_push_307 {Y : QX} {out : Int32 × (Nat → Int32) × (Nat → Int64)} (yy : Nat → Int32) (gg : Nat → Int32) (hE : EndQ Y mL_push .ireturn [0, 1, 2, 3] none [.inl (24, yy), .inl (36, gg), .inl (6, out.2.1), .inr (3, out.2.2)] (fun _ => [.int out.1])) (rl25 : (Nat → Int32) → (Nat → Int64) → Int32 → Int32 → Int32 → Int32 → Option (Int32 × (Nat → Int32) × (Nat → Int64))) (hr25 : ∀ (A2 : Nat → Int32) (A3 : Nat → Int64) (x5 : Int32) (x6 : Int32) (x7 : Int32) (x8 : Int32), rl25 A2 A3 x5 x6 x7 x8 = some out → JQ Y mL_push (none) [0, 1, 2, 3] [.inl (24, yy), .inl (36, gg), .inl (6, A2), .inr (3, A3)] 0 25 (fun b => [(0, .ref (b 0)), (1, .ref (b 1)), (2, .ref (b 2)), (3, .ref (b 3)), (5, .int x5), (6, .int x6), (7, .int x7), (8, .int x8)]) (fun _ => [])) (A2 : Nat → Int32) (A3 : Nat → Int64) (x5 : Int32) (x6 : Int32) (x7 : Int32) (x11 : Int32) (x13 : Int32) (s0 : Int64) (s1 : Int64) (s2 : Int32) (h : FL_push_307 yy gg rl25 A2 A3 x5 x6 x7 x11 x13 s0 s1 s2 = some out) : JQ Y mL_push (none) [0, 1, 2, 3] [.inl (24, yy), .inl (36, gg), .inl (6, A2), .inr (3, A3)] 0 307 (fun b => [(0, .ref (b 0)), (1, .ref (b 1)), (2, .ref (b 2)), (3, .ref (b 3)), (5, .int x5), (6, .int x6), (7, .int x7), (11, .int x11), (13, .int x13)]) (fun b => [.long s0, .long s1, .int s2, .ref (b 3)]) := by
  refine q_lor dL_push_307 rfl ?_
  refine q_last 3 3 A3 (fun f37 => [.inl (24, yy), .inl (36, gg), .inl (6, A2), .inr (3, f37)]) rfl (fun _ => rfl) dL_push_308 rfl h (fun f37 h => ?_)
  refine q_iload 5 dL_push_309 rfl (fun _ => rfl) ?_
  refine q_aload_n 1 (fun b => b 1) dL_push_311 rfl rfl (fun _ => rfl) ?_
  refine q_iload 7 dL_push_312 rfl (fun _ => rfl) ?_
  refine q_iald 1 36 gg rfl dL_push_314 rfl h (fun j38 h => ?_)
  refine q_iconst dL_push_315 rfl ki_3 ?_
  refine q_icmp_le dL_push_316 rfl rfl h (fun c h => ?_) (fun c h => ?_)
  · refine q_iconst dL_push_330 rfl ki_0 ?_
    refine q_sub [0, 1, 2, 3, 4, 6, 8] (fun b => [(0, .ref (b 0)), (1, .ref (b 1)), (2, .ref (b 2)), (3, .ref (b 3)), (5, .int x5), (7, .int x7), (13, .int x13)]) (fun _ => rfl) ?_
    exact jL_push_331 yy gg hE rl25 hr25 A2 f37 x5 x7 x13 (0 : Int32) x6 h
  · refine q_iconst dL_push_319 rfl ki_1 ?_
    refine q_aload_n 1 (fun b => b 1) dL_push_320 rfl rfl (fun _ => rfl) ?_
    refine q_iload 7 dL_push_321 rfl (fun _ => rfl) ?_
    refine q_iald 1 36 gg rfl dL_push_323 rfl h (fun j39 h => ?_)
    refine q_iconst dL_push_324 rfl ki_4 ?_
    refine q_isub dL_push_325 rfl ?_
    refine q_ishl dL_push_326 rfl ?_
    refine q_goto dL_push_327 rfl ?_
    refine q_sub [0, 1, 2, 3, 4, 6, 8] (fun b => [(0, .ref (b 0)), (1, .ref (b 1)), (2, .ref (b 2)), (3, .ref (b 3)), (5, .int x5), (7, .int x7), (13, .int x13)]) (fun _ => rfl) ?_
    exact jL_push_331 yy gg hE rl25 hr25 A2 f37 x5 x7 x13 ((1 : Int32) <<< (((gg j39) - (4 : Int32)) &&& 31)) x6 h
noncomputable def FL_push_289 (yy : Nat → Int32) (gg : Nat → Int32) (rl25 : (Nat → Int32) → (Nat → Int64) → Int32 → Int32 → Int32 → Int32 → Option (Int32 × (Nat → Int32) × (Nat → Int64))) (A2 : Nat → Int32) (A3 : Nat → Int64) (x5 : Int32) (x6 : Int32) (x7 : Int32) (x11 : Int32) (x12 : Int32) (x13 : Int32) (s0 : Int32) (s1 : Int32) : Option (Int32 × (Nat → Int32) × (Nat → Int64)) :=
  stA s1 6 A2 s0 fun f40 =>
  rd (0 : Int32) 3 fun j41 =>
  if x12 = 0 then
  (FL_push_307 yy gg rl25 f40 A3 x5 x6 x7 x11 x13 (0 : Int64) (A3 j41) (0 : Int32))
  else
  (FL_push_307 yy gg rl25 f40 A3 x5 x6 x7 x11 x13 ((1 : Int64) <<< ((x11).toInt64 &&& 63)) (A3 j41) (0 : Int32))
set_option maxHeartbeats 4000000 in
set_option maxRecDepth 100000 in
theorem jL_push_289 {Y : QX} {out : Int32 × (Nat → Int32) × (Nat → Int64)} (yy : Nat → Int32) (gg : Nat → Int32) (hE : EndQ Y mL_push .ireturn [0, 1, 2, 3] none [.inl (24, yy), .inl (36, gg), .inl (6, out.2.1), .inr (3, out.2.2)] (fun _ => [.int out.1])) (rl25 : (Nat → Int32) → (Nat → Int64) → Int32 → Int32 → Int32 → Int32 → Option (Int32 × (Nat → Int32) × (Nat → Int64))) (hr25 : ∀ (A2 : Nat → Int32) (A3 : Nat → Int64) (x5 : Int32) (x6 : Int32) (x7 : Int32) (x8 : Int32), rl25 A2 A3 x5 x6 x7 x8 = some out → JQ Y mL_push (none) [0, 1, 2, 3] [.inl (24, yy), .inl (36, gg), .inl (6, A2), .inr (3, A3)] 0 25 (fun b => [(0, .ref (b 0)), (1, .ref (b 1)), (2, .ref (b 2)), (3, .ref (b 3)), (5, .int x5), (6, .int x6), (7, .int x7), (8, .int x8)]) (fun _ => [])) (A2 : Nat → Int32) (A3 : Nat → Int64) (x5 : Int32) (x6 : Int32) (x7 : Int32) (x11 : Int32) (x12 : Int32) (x13 : Int32) (s0 : Int32) (s1 : Int32) (h : FL_push_289 yy gg rl25 A2 A3 x5 x6 x7 x11 x12 x13 s0 s1 = some out) : JQ Y mL_push (none) [0, 1, 2, 3] [.inl (24, yy), .inl (36, gg), .inl (6, A2), .inr (3, A3)] 0 289 (fun b => [(0, .ref (b 0)), (1, .ref (b 1)), (2, .ref (b 2)), (3, .ref (b 3)), (5, .int x5), (6, .int x6), (7, .int x7), (11, .int x11), (12, .int x12), (13, .int x13)]) (fun b => [.int s0, .int s1, .ref (b 2)]) := by
  refine q_iast 2 6 A2 (fun f40 => [.inl (24, yy), .inl (36, gg), .inl (6, f40), .inr (3, A3)]) rfl (fun _ => rfl) dL_push_289 rfl h (fun f40 h => ?_)
  refine q_aload_n 3 (fun b => b 3) dL_push_290 rfl rfl (fun _ => rfl) ?_
  refine q_iconst dL_push_291 rfl ki_0 ?_
  refine q_dup2 (v := fun b => .int (0 : Int32)) (w := fun b => .ref (b 3)) dL_push_292 rfl (fun _ => rfl) (fun _ => rfl) ?_
  refine q_lald 3 3 A3 rfl dL_push_293 rfl h (fun j41 h => ?_)
  refine q_iload 8 dL_push_294 rfl (fun _ => rfl) ?_
  refine q_if_eq dL_push_296 rfl rfl h (fun c h => ?_) (fun c h => ?_)
  · refine q_lconst dL_push_306 rfl kl_0 ?_
    refine q_sub [0, 1, 2, 3, 4, 5, 6, 7, 9] (fun b => [(0, .ref (b 0)), (1, .ref (b 1)), (2, .ref (b 2)), (3, .ref (b 3)), (5, .int x5), (6, .int x6), (7, .int x7), (11, .int x11), (13, .int x13)]) (fun _ => rfl) ?_
    exact jL_push_307 yy gg hE rl25 hr25 f40 A3 x5 x6 x7 x11 x13 (0 : Int64) (A3 j41) (0 : Int32) h
  · refine q_lconst dL_push_299 rfl kl_1 ?_
    refine q_iload 7 dL_push_300 rfl (fun _ => rfl) ?_
    refine q_lshl dL_push_302 rfl ?_
    refine q_goto dL_push_303 rfl ?_
    refine q_sub [0, 1, 2, 3, 4, 5, 6, 7, 9] (fun b => [(0, .ref (b 0)), (1, .ref (b 1)), (2, .ref (b 2)), (3, .ref (b 3)), (5, .int x5), (6, .int x6), (7, .int x7), (11, .int x11), (13, .int x13)]) (fun _ => rfl) ?_
    exact jL_push_307 yy gg hE rl25 hr25 f40 A3 x5 x6 x7 x11 x13 ((1 : Int64) <<< ((x11).toInt64 &&& 63)) (A3 j41) (0 : Int32) h
noncomputable def FL_push_254 (yy : Nat → Int32) (gg : Nat → Int32) (rl25 : (Nat → Int32) → (Nat → Int64) → Int32 → Int32 → Int32 → Int32 → Option (Int32 × (Nat → Int32) × (Nat → Int64))) (A2 : Nat → Int32) (A3 : Nat → Int64) (x5 : Int32) (x6 : Int32) (x7 : Int32) (x11 : Int32) (x12 : Int32) (s0 : Int32) : Option (Int32 × (Nat → Int32) × (Nat → Int64)) :=
  if x12 = 0 then
  (rd x11 36 fun j42 =>
  if (gg j42) ≤ (3 : Int32) then
  (FL_push_289 yy gg rl25 A2 A3 x5 x6 x7 x11 x12 s0 x11 x7)
  else
  (rd x11 36 fun j43 =>
  FL_push_289 yy gg rl25 A2 A3 x5 x6 x7 x11 x12 s0 ((-16 : Int32) - (gg j43)) x7))
  else
  (FL_push_289 yy gg rl25 A2 A3 x5 x6 x7 x11 x12 s0 (-6 : Int32) x7)
set_option maxHeartbeats 4000000 in
set_option maxRecDepth 100000 in
theorem jL_push_254 {Y : QX} {out : Int32 × (Nat → Int32) × (Nat → Int64)} (yy : Nat → Int32) (gg : Nat → Int32) (hE : EndQ Y mL_push .ireturn [0, 1, 2, 3] none [.inl (24, yy), .inl (36, gg), .inl (6, out.2.1), .inr (3, out.2.2)] (fun _ => [.int out.1])) (rl25 : (Nat → Int32) → (Nat → Int64) → Int32 → Int32 → Int32 → Int32 → Option (Int32 × (Nat → Int32) × (Nat → Int64))) (hr25 : ∀ (A2 : Nat → Int32) (A3 : Nat → Int64) (x5 : Int32) (x6 : Int32) (x7 : Int32) (x8 : Int32), rl25 A2 A3 x5 x6 x7 x8 = some out → JQ Y mL_push (none) [0, 1, 2, 3] [.inl (24, yy), .inl (36, gg), .inl (6, A2), .inr (3, A3)] 0 25 (fun b => [(0, .ref (b 0)), (1, .ref (b 1)), (2, .ref (b 2)), (3, .ref (b 3)), (5, .int x5), (6, .int x6), (7, .int x7), (8, .int x8)]) (fun _ => [])) (A2 : Nat → Int32) (A3 : Nat → Int64) (x5 : Int32) (x6 : Int32) (x7 : Int32) (x11 : Int32) (x12 : Int32) (s0 : Int32) (h : FL_push_254 yy gg rl25 A2 A3 x5 x6 x7 x11 x12 s0 = some out) : JQ Y mL_push (none) [0, 1, 2, 3] [.inl (24, yy), .inl (36, gg), .inl (6, A2), .inr (3, A3)] 0 254 (fun b => [(0, .ref (b 0)), (1, .ref (b 1)), (2, .ref (b 2)), (3, .ref (b 3)), (5, .int x5), (6, .int x6), (7, .int x7), (11, .int x11), (12, .int x12)]) (fun _ => [.int s0]) := by
  refine q_istoreV (fun b => [(13, .int s0), (0, .ref (b 0)), (1, .ref (b 1)), (2, .ref (b 2)), (3, .ref (b 3)), (5, .int x5), (6, .int x6), (7, .int x7), (11, .int x11), (12, .int x12)]) dL_push_254 rfl (show 13 < 14 by decide) (fun _ => rfl) ?_
  refine q_aload_n 3 (fun b => b 2) dL_push_256 rfl rfl (fun _ => rfl) ?_
  refine q_iload 7 dL_push_257 rfl (fun _ => rfl) ?_
  refine q_iload 9 dL_push_259 rfl (fun _ => rfl) ?_
  refine q_if_eq dL_push_261 rfl rfl h (fun c h => ?_) (fun c h => ?_)
  · refine q_aload_n 2 (fun b => b 1) dL_push_269 rfl rfl (fun _ => rfl) ?_
    refine q_iload 8 dL_push_270 rfl (fun _ => rfl) ?_
    refine q_iald 1 36 gg rfl dL_push_272 rfl h (fun j42 h => ?_)
    refine q_iconst dL_push_273 rfl ki_3 ?_
    refine q_icmp_le dL_push_274 rfl rfl h (fun c h => ?_) (fun c h => ?_)
    · refine q_iload 8 dL_push_287 rfl (fun _ => rfl) ?_
      refine q_sub [1, 2, 3, 4, 5, 6, 7, 8, 9, 0] (fun b => [(0, .ref (b 0)), (1, .ref (b 1)), (2, .ref (b 2)), (3, .ref (b 3)), (5, .int x5), (6, .int x6), (7, .int x7), (11, .int x11), (12, .int x12), (13, .int s0)]) (fun _ => rfl) ?_
      exact jL_push_289 yy gg hE rl25 hr25 A2 A3 x5 x6 x7 x11 x12 s0 x11 x7 h
    · refine q_bipush dL_push_277 rfl kb_m16 ?_
      refine q_aload_n 2 (fun b => b 1) dL_push_279 rfl rfl (fun _ => rfl) ?_
      refine q_iload 8 dL_push_280 rfl (fun _ => rfl) ?_
      refine q_iald 1 36 gg rfl dL_push_282 rfl h (fun j43 h => ?_)
      refine q_isub dL_push_283 rfl ?_
      refine q_goto dL_push_284 rfl ?_
      refine q_sub [1, 2, 3, 4, 5, 6, 7, 8, 9, 0] (fun b => [(0, .ref (b 0)), (1, .ref (b 1)), (2, .ref (b 2)), (3, .ref (b 3)), (5, .int x5), (6, .int x6), (7, .int x7), (11, .int x11), (12, .int x12), (13, .int s0)]) (fun _ => rfl) ?_
      exact jL_push_289 yy gg hE rl25 hr25 A2 A3 x5 x6 x7 x11 x12 s0 ((-16 : Int32) - (gg j43)) x7 h
  · refine q_bipush dL_push_264 rfl kb_m6 ?_
    refine q_goto dL_push_266 rfl ?_
    refine q_sub [1, 2, 3, 4, 5, 6, 7, 8, 9, 0] (fun b => [(0, .ref (b 0)), (1, .ref (b 1)), (2, .ref (b 2)), (3, .ref (b 3)), (5, .int x5), (6, .int x6), (7, .int x7), (11, .int x11), (12, .int x12), (13, .int s0)]) (fun _ => rfl) ?_
    exact jL_push_289 yy gg hE rl25 hr25 A2 A3 x5 x6 x7 x11 x12 s0 (-6 : Int32) x7 h
noncomputable def FL_push_226 (yy : Nat → Int32) (gg : Nat → Int32) (rl25 : (Nat → Int32) → (Nat → Int64) → Int32 → Int32 → Int32 → Int32 → Option (Int32 × (Nat → Int32) × (Nat → Int64))) (A2 : Nat → Int32) (A3 : Nat → Int64) (x5 : Int32) (x6 : Int32) (x7 : Int32) (x11 : Int32) (s0 : Int32) : Option (Int32 × (Nat → Int32) × (Nat → Int64)) :=
  rd x11 36 fun j44 =>
  if (gg j44) = (2 : Int32) then
  (FL_push_254 yy gg rl25 A2 A3 x5 x6 x7 x11 s0 (1 : Int32))
  else
  (rd (2 : Int32) 3 fun j45 =>
  if (lg_cmp (((A3 j45) >>> ((x11).toInt64 &&& 63)) &&& (1 : Int64)) (1 : Int64)) = 0 then
  (FL_push_254 yy gg rl25 A2 A3 x5 x6 x7 x11 s0 (1 : Int32))
  else
  (FL_push_254 yy gg rl25 A2 A3 x5 x6 x7 x11 s0 (0 : Int32)))
set_option maxHeartbeats 4000000 in
set_option maxRecDepth 100000 in
theorem jL_push_226 {Y : QX} {out : Int32 × (Nat → Int32) × (Nat → Int64)} (yy : Nat → Int32) (gg : Nat → Int32) (hE : EndQ Y mL_push .ireturn [0, 1, 2, 3] none [.inl (24, yy), .inl (36, gg), .inl (6, out.2.1), .inr (3, out.2.2)] (fun _ => [.int out.1])) (rl25 : (Nat → Int32) → (Nat → Int64) → Int32 → Int32 → Int32 → Int32 → Option (Int32 × (Nat → Int32) × (Nat → Int64))) (hr25 : ∀ (A2 : Nat → Int32) (A3 : Nat → Int64) (x5 : Int32) (x6 : Int32) (x7 : Int32) (x8 : Int32), rl25 A2 A3 x5 x6 x7 x8 = some out → JQ Y mL_push (none) [0, 1, 2, 3] [.inl (24, yy), .inl (36, gg), .inl (6, A2), .inr (3, A3)] 0 25 (fun b => [(0, .ref (b 0)), (1, .ref (b 1)), (2, .ref (b 2)), (3, .ref (b 3)), (5, .int x5), (6, .int x6), (7, .int x7), (8, .int x8)]) (fun _ => [])) (A2 : Nat → Int32) (A3 : Nat → Int64) (x5 : Int32) (x6 : Int32) (x7 : Int32) (x11 : Int32) (s0 : Int32) (h : FL_push_226 yy gg rl25 A2 A3 x5 x6 x7 x11 s0 = some out) : JQ Y mL_push (none) [0, 1, 2, 3] [.inl (24, yy), .inl (36, gg), .inl (6, A2), .inr (3, A3)] 0 226 (fun b => [(0, .ref (b 0)), (1, .ref (b 1)), (2, .ref (b 2)), (3, .ref (b 3)), (5, .int x5), (6, .int x6), (7, .int x7), (11, .int x11)]) (fun _ => [.int s0]) := by
  refine q_istoreV (fun b => [(12, .int s0), (0, .ref (b 0)), (1, .ref (b 1)), (2, .ref (b 2)), (3, .ref (b 3)), (5, .int x5), (6, .int x6), (7, .int x7), (11, .int x11)]) dL_push_226 rfl (show 12 < 14 by decide) (fun _ => rfl) ?_
  refine q_aload_n 2 (fun b => b 1) dL_push_228 rfl rfl (fun _ => rfl) ?_
  refine q_iload 8 dL_push_229 rfl (fun _ => rfl) ?_
  refine q_iald 1 36 gg rfl dL_push_231 rfl h (fun j44 h => ?_)
  refine q_iconst dL_push_232 rfl ki_2 ?_
  refine q_icmp_eq dL_push_233 rfl rfl h (fun c h => ?_) (fun c h => ?_)
  · refine q_iconst dL_push_249 rfl ki_1 ?_
    refine q_goto dL_push_250 rfl ?_
    refine q_sub [1, 2, 3, 4, 5, 6, 7, 8, 0] (fun b => [(0, .ref (b 0)), (1, .ref (b 1)), (2, .ref (b 2)), (3, .ref (b 3)), (5, .int x5), (6, .int x6), (7, .int x7), (11, .int x11), (12, .int s0)]) (fun _ => rfl) ?_
    exact jL_push_254 yy gg hE rl25 hr25 A2 A3 x5 x6 x7 x11 s0 (1 : Int32) h
  · refine q_aload_n 4 (fun b => b 3) dL_push_236 rfl rfl (fun _ => rfl) ?_
    refine q_iconst dL_push_237 rfl ki_2 ?_
    refine q_lald 3 3 A3 rfl dL_push_238 rfl h (fun j45 h => ?_)
    refine q_iload 8 dL_push_239 rfl (fun _ => rfl) ?_
    refine q_lshr dL_push_241 rfl ?_
    refine q_lconst dL_push_242 rfl kl_1 ?_
    refine q_land dL_push_243 rfl ?_
    refine q_lconst dL_push_244 rfl kl_1 ?_
    refine q_lcmp dL_push_245 rfl ?_
    refine q_if_ne dL_push_246 rfl rfl h (fun c h => ?_) (fun c h => ?_)
    · refine q_iconst dL_push_253 rfl ki_0 ?_
      refine q_sub [1, 2, 3, 4, 5, 6, 7, 8, 0] (fun b => [(0, .ref (b 0)), (1, .ref (b 1)), (2, .ref (b 2)), (3, .ref (b 3)), (5, .int x5), (6, .int x6), (7, .int x7), (11, .int x11), (12, .int s0)]) (fun _ => rfl) ?_
      exact jL_push_254 yy gg hE rl25 hr25 A2 A3 x5 x6 x7 x11 s0 (0 : Int32) h
    · refine q_iconst dL_push_249 rfl ki_1 ?_
      refine q_goto dL_push_250 rfl ?_
      refine q_sub [1, 2, 3, 4, 5, 6, 7, 8, 0] (fun b => [(0, .ref (b 0)), (1, .ref (b 1)), (2, .ref (b 2)), (3, .ref (b 3)), (5, .int x5), (6, .int x6), (7, .int x7), (11, .int x11), (12, .int s0)]) (fun _ => rfl) ?_
      exact jL_push_254 yy gg hE rl25 hr25 A2 A3 x5 x6 x7 x11 s0 (1 : Int32) h
noncomputable def FL_push_167 (yy : Nat → Int32) (gg : Nat → Int32) (rl25 : (Nat → Int32) → (Nat → Int64) → Int32 → Int32 → Int32 → Int32 → Option (Int32 × (Nat → Int32) × (Nat → Int64))) (A2 : Nat → Int32) (A3 : Nat → Int64) (x5 : Int32) (x6 : Int32) (x7 : Int32) (x11 : Int32) (s0 : Int32) : Option (Int32 × (Nat → Int32) × (Nat → Int64)) :=
  if s0 = 0 then
  (rl25 A2 A3 x5 x6 x7 s0)
  else
  (bn (FL_who A2 x11) fun o46 =>
  rl25 A2 A3 x5 x6 o46 s0)
set_option maxHeartbeats 4000000 in
set_option maxRecDepth 100000 in
theorem jL_push_167 {Y : QX} {out : Int32 × (Nat → Int32) × (Nat → Int64)} (yy : Nat → Int32) (gg : Nat → Int32) (hE : EndQ Y mL_push .ireturn [0, 1, 2, 3] none [.inl (24, yy), .inl (36, gg), .inl (6, out.2.1), .inr (3, out.2.2)] (fun _ => [.int out.1])) (rl25 : (Nat → Int32) → (Nat → Int64) → Int32 → Int32 → Int32 → Int32 → Option (Int32 × (Nat → Int32) × (Nat → Int64))) (hr25 : ∀ (A2 : Nat → Int32) (A3 : Nat → Int64) (x5 : Int32) (x6 : Int32) (x7 : Int32) (x8 : Int32), rl25 A2 A3 x5 x6 x7 x8 = some out → JQ Y mL_push (none) [0, 1, 2, 3] [.inl (24, yy), .inl (36, gg), .inl (6, A2), .inr (3, A3)] 0 25 (fun b => [(0, .ref (b 0)), (1, .ref (b 1)), (2, .ref (b 2)), (3, .ref (b 3)), (5, .int x5), (6, .int x6), (7, .int x7), (8, .int x8)]) (fun _ => [])) (A2 : Nat → Int32) (A3 : Nat → Int64) (x5 : Int32) (x6 : Int32) (x7 : Int32) (x11 : Int32) (s0 : Int32) (h : FL_push_167 yy gg rl25 A2 A3 x5 x6 x7 x11 s0 = some out) : JQ Y mL_push (none) [0, 1, 2, 3] [.inl (24, yy), .inl (36, gg), .inl (6, A2), .inr (3, A3)] 0 167 (fun b => [(0, .ref (b 0)), (1, .ref (b 1)), (2, .ref (b 2)), (3, .ref (b 3)), (5, .int x5), (6, .int x6), (7, .int x7), (11, .int x11)]) (fun _ => [.int s0]) := by
  refine q_istoreV (fun b => [(8, .int s0), (0, .ref (b 0)), (1, .ref (b 1)), (2, .ref (b 2)), (3, .ref (b 3)), (5, .int x5), (6, .int x6), (7, .int x7), (11, .int x11)]) dL_push_167 rfl (show 8 < 14 by decide) (fun _ => rfl) ?_
  refine q_iload 0 dL_push_169 rfl (fun _ => rfl) ?_
  refine q_if_eq dL_push_171 rfl rfl h (fun c h => ?_) (fun c h => ?_)
  · refine q_iload 7 dL_push_183 rfl (fun _ => rfl) ?_
    refine q_istoreV (fun b => [(7, .int x7), (8, .int s0), (0, .ref (b 0)), (1, .ref (b 1)), (2, .ref (b 2)), (3, .ref (b 3)), (5, .int x5), (6, .int x6), (11, .int x11)]) dL_push_185 rfl (show 7 < 14 by decide) (fun _ => rfl) ?_
    refine q_goto dL_push_187 rfl ?_
    refine q_goto dL_push_363 rfl ?_
    refine q_sub [2, 3, 4, 5, 6, 7, 0, 1] (fun b => [(0, .ref (b 0)), (1, .ref (b 1)), (2, .ref (b 2)), (3, .ref (b 3)), (5, .int x5), (6, .int x6), (7, .int x7), (8, .int s0)]) (fun _ => rfl) ?_
    exact hr25 A2 A3 x5 x6 x7 s0 h
  · refine q_aload_n 3 (fun b => b 2) dL_push_174 rfl rfl (fun _ => rfl) ?_
    refine q_iload 8 dL_push_175 rfl (fun _ => rfl) ?_
    refine q_pick [0, 1, 3, 2] [.inl (24, yy), .inl (36, gg), .inr (3, A3), .inl (6, A2)] [0, 1, 3, 2] (fun b => [(8, .int s0), (0, .ref (b 0)), (1, .ref (b 1)), (2, .ref (b 3)), (3, .ref (b 2)), (5, .int x5), (6, .int x6), (7, .int x7), (11, .int x11)]) (fun b => [.int x11, .ref (b 3)]) rfl rfl (by decide) rfl (fun _ => rfl) (fun _ => rfl) ?_
    obtain ⟨o46, hc, h⟩ := bn_of h
    refine q_call [.inl (24, yy), .inl (36, gg), .inr (3, A3)] 3 (fun b => [.ref (b 3), .int x11]) (fun _ => []) (coL_who A2 x11 o46 hc) rfl rfl rfl ms_RL_29 (by decide) (Or.inl rfl) (fun _ => rfl) (fun _ => rfl) (fun _ => rfl) (fun _ => Nat.le_of_ble_eq_true rfl) dL_push_177 rfl ?_
    show JQ Y mL_push (none) [0, 1, 3, 2] [.inl (24, yy), .inl (36, gg), .inr (3, A3), .inl (6, A2)] _ 180 (fun b => [(8, .int s0), (0, .ref (b 0)), (1, .ref (b 1)), (2, .ref (b 3)), (3, .ref (b 2)), (5, .int x5), (6, .int x6), (7, .int x7), (11, .int x11)]) (fun _ => [.int o46])
    refine q_goto dL_push_180 rfl ?_
    refine q_istoreV (fun b => [(7, .int o46), (8, .int s0), (0, .ref (b 0)), (1, .ref (b 1)), (2, .ref (b 3)), (3, .ref (b 2)), (5, .int x5), (6, .int x6), (11, .int x11)]) dL_push_185 rfl (show 7 < 14 by decide) (fun _ => rfl) ?_
    refine q_goto dL_push_187 rfl ?_
    refine q_goto dL_push_363 rfl ?_
    refine q_sub [2, 3, 4, 5, 6, 7, 0, 1] (fun b => [(0, .ref (b 0)), (1, .ref (b 1)), (2, .ref (b 3)), (3, .ref (b 2)), (5, .int x5), (6, .int x6), (7, .int o46), (8, .int s0)]) (fun _ => rfl) ?_
    refine q_pick [0, 1, 3, 2] [.inl (24, yy), .inl (36, gg), .inl (6, A2), .inr (3, A3)] [0, 1, 2, 3] (fun b => [(0, .ref (b 0)), (1, .ref (b 1)), (2, .ref (b 2)), (3, .ref (b 3)), (5, .int x5), (6, .int x6), (7, .int o46), (8, .int s0)]) (fun _ => []) rfl rfl (by decide) rfl (fun _ => rfl) (fun _ => rfl) ?_
    exact hr25 A2 A3 x5 x6 o46 s0 h
noncomputable def FL_push_90 (yy : Nat → Int32) (gg : Nat → Int32) (rl25 : (Nat → Int32) → (Nat → Int64) → Int32 → Int32 → Int32 → Int32 → Option (Int32 × (Nat → Int32) × (Nat → Int64))) (A2 : Nat → Int32) (A3 : Nat → Int64) (x5 : Int32) (x6 : Int32) (x7 : Int32) (x9 : Int32) (s0 : Int32) (s1 : Int32) : Option (Int32 × (Nat → Int32) × (Nat → Int64)) :=
  nm (s1 + s0) fun x_47 =>
  rd (1 : Int32) 24 fun j48 =>
  nm ((x9 * (yy j48)) + x_47) fun x_49 =>
  if x9 < 0 then
  (rl25 A2 A3 x5 x6 x7 (0 : Int32))
  else
  (rd (0 : Int32) 24 fun j50 =>
  if x9 = (yy j50) then
  (rl25 A2 A3 x5 x6 x7 (0 : Int32))
  else
  (if x_47 < 0 then
  (rl25 A2 A3 x5 x6 x7 (0 : Int32))
  else
  (rd (1 : Int32) 24 fun j51 =>
  if x_47 = (yy j51) then
  (rl25 A2 A3 x5 x6 x7 (0 : Int32))
  else
  (rd x_49 36 fun j52 =>
  if (gg j52) = (1 : Int32) then
  (rl25 A2 A3 x5 x6 x7 (0 : Int32))
  else
  (bn (FL_who A2 x_49) fun o53 =>
  if o53 < 0 then
  (rd (1 : Int32) 3 fun j54 =>
  stB (1 : Int32) 3 A3 ((A3 j54) ||| ((1 : Int64) <<< ((x_49).toInt64 &&& 63))) fun f55 =>
  rd x_49 36 fun j56 =>
  if (gg j56) = (3 : Int32) then
  (rd (0 : Int32) 3 fun j57 =>
  if (lg_cmp (((f55 j57) >>> ((x_49).toInt64 &&& 63)) &&& (1 : Int64)) (0 : Int64)) = 0 then
  (FL_push_226 yy gg rl25 A2 f55 x5 x6 x7 x_49 (1 : Int32))
  else
  (FL_push_226 yy gg rl25 A2 f55 x5 x6 x7 x_49 (0 : Int32)))
  else
  (FL_push_226 yy gg rl25 A2 f55 x5 x6 x7 x_49 (0 : Int32)))
  else
  (rd ((4 : Int32) + x7) 24 fun j58 =>
  if (yy j58) ≤ 0 then
  (FL_push_167 yy gg rl25 A2 A3 x5 x6 x7 x_49 (0 : Int32))
  else
  (FL_push_167 yy gg rl25 A2 A3 x5 x6 x7 x_49 (1 : Int32))))))))
set_option maxHeartbeats 4000000 in
set_option maxRecDepth 100000 in
theorem jL_push_90 {Y : QX} {out : Int32 × (Nat → Int32) × (Nat → Int64)} (yy : Nat → Int32) (gg : Nat → Int32) (hE : EndQ Y mL_push .ireturn [0, 1, 2, 3] none [.inl (24, yy), .inl (36, gg), .inl (6, out.2.1), .inr (3, out.2.2)] (fun _ => [.int out.1])) (rl25 : (Nat → Int32) → (Nat → Int64) → Int32 → Int32 → Int32 → Int32 → Option (Int32 × (Nat → Int32) × (Nat → Int64))) (hr25 : ∀ (A2 : Nat → Int32) (A3 : Nat → Int64) (x5 : Int32) (x6 : Int32) (x7 : Int32) (x8 : Int32), rl25 A2 A3 x5 x6 x7 x8 = some out → JQ Y mL_push (none) [0, 1, 2, 3] [.inl (24, yy), .inl (36, gg), .inl (6, A2), .inr (3, A3)] 0 25 (fun b => [(0, .ref (b 0)), (1, .ref (b 1)), (2, .ref (b 2)), (3, .ref (b 3)), (5, .int x5), (6, .int x6), (7, .int x7), (8, .int x8)]) (fun _ => [])) (A2 : Nat → Int32) (A3 : Nat → Int64) (x5 : Int32) (x6 : Int32) (x7 : Int32) (x9 : Int32) (s0 : Int32) (s1 : Int32) (h : FL_push_90 yy gg rl25 A2 A3 x5 x6 x7 x9 s0 s1 = some out) : JQ Y mL_push (none) [0, 1, 2, 3] [.inl (24, yy), .inl (36, gg), .inl (6, A2), .inr (3, A3)] 0 90 (fun b => [(0, .ref (b 0)), (1, .ref (b 1)), (2, .ref (b 2)), (3, .ref (b 3)), (5, .int x5), (6, .int x6), (7, .int x7), (9, .int x9)]) (fun _ => [.int s0, .int s1]) := by
  refine q_iadd dL_push_90 rfl ?_
  refine q_istore (fun x_47 => (fun b => [(10, .int x_47), (0, .ref (b 0)), (1, .ref (b 1)), (2, .ref (b 2)), (3, .ref (b 3)), (5, .int x5), (6, .int x6), (7, .int x7), (9, .int x9)])) dL_push_91 rfl (show 10 < 14 by decide) (fun _ _ => rfl) h (fun x_47 h => ?_)
  refine q_iload 8 dL_push_93 rfl (fun _ => rfl) ?_
  refine q_aload_n 1 (fun b => b 0) dL_push_95 rfl rfl (fun _ => rfl) ?_
  refine q_iconst dL_push_96 rfl ki_1 ?_
  refine q_iald 0 24 yy rfl dL_push_97 rfl h (fun j48 h => ?_)
  refine q_imul dL_push_98 rfl ?_
  refine q_iload 0 dL_push_99 rfl (fun _ => rfl) ?_
  refine q_iadd dL_push_101 rfl ?_
  refine q_istore (fun x_49 => (fun b => [(11, .int x_49), (10, .int x_47), (0, .ref (b 0)), (1, .ref (b 1)), (2, .ref (b 2)), (3, .ref (b 3)), (5, .int x5), (6, .int x6), (7, .int x7), (9, .int x9)])) dL_push_102 rfl (show 11 < 14 by decide) (fun _ _ => rfl) h (fun x_49 h => ?_)
  refine q_iload 9 dL_push_104 rfl (fun _ => rfl) ?_
  refine q_if_lt dL_push_106 rfl rfl h (fun c h => ?_) (fun c h => ?_)
  · refine q_iconst dL_push_138 rfl ki_0 ?_
    refine q_istoreV (fun b => [(8, .int (0 : Int32)), (11, .int x_49), (10, .int x_47), (0, .ref (b 0)), (1, .ref (b 1)), (2, .ref (b 2)), (3, .ref (b 3)), (5, .int x5), (6, .int x6), (7, .int x7), (9, .int x9)]) dL_push_139 rfl (show 8 < 14 by decide) (fun _ => rfl) ?_
    refine q_goto dL_push_141 rfl ?_
    refine q_goto dL_push_363 rfl ?_
    refine q_sub [3, 4, 5, 6, 7, 8, 9, 0] (fun b => [(0, .ref (b 0)), (1, .ref (b 1)), (2, .ref (b 2)), (3, .ref (b 3)), (5, .int x5), (6, .int x6), (7, .int x7), (8, .int (0 : Int32))]) (fun _ => rfl) ?_
    exact hr25 A2 A3 x5 x6 x7 (0 : Int32) h
  · refine q_iload 9 dL_push_109 rfl (fun _ => rfl) ?_
    refine q_aload_n 2 (fun b => b 0) dL_push_111 rfl rfl (fun _ => rfl) ?_
    refine q_iconst dL_push_112 rfl ki_0 ?_
    refine q_iald 0 24 yy rfl dL_push_113 rfl h (fun j50 h => ?_)
    refine q_icmp_eq dL_push_114 rfl rfl h (fun c h => ?_) (fun c h => ?_)
    · refine q_iconst dL_push_138 rfl ki_0 ?_
      refine q_istoreV (fun b => [(8, .int (0 : Int32)), (11, .int x_49), (10, .int x_47), (0, .ref (b 0)), (1, .ref (b 1)), (2, .ref (b 2)), (3, .ref (b 3)), (5, .int x5), (6, .int x6), (7, .int x7), (9, .int x9)]) dL_push_139 rfl (show 8 < 14 by decide) (fun _ => rfl) ?_
      refine q_goto dL_push_141 rfl ?_
      refine q_goto dL_push_363 rfl ?_
      refine q_sub [3, 4, 5, 6, 7, 8, 9, 0] (fun b => [(0, .ref (b 0)), (1, .ref (b 1)), (2, .ref (b 2)), (3, .ref (b 3)), (5, .int x5), (6, .int x6), (7, .int x7), (8, .int (0 : Int32))]) (fun _ => rfl) ?_
      exact hr25 A2 A3 x5 x6 x7 (0 : Int32) h
    · refine q_iload 1 dL_push_117 rfl (fun _ => rfl) ?_
      refine q_if_lt dL_push_119 rfl rfl h (fun c h => ?_) (fun c h => ?_)
      · refine q_iconst dL_push_138 rfl ki_0 ?_
        refine q_istoreV (fun b => [(8, .int (0 : Int32)), (11, .int x_49), (10, .int x_47), (0, .ref (b 0)), (1, .ref (b 1)), (2, .ref (b 2)), (3, .ref (b 3)), (5, .int x5), (6, .int x6), (7, .int x7), (9, .int x9)]) dL_push_139 rfl (show 8 < 14 by decide) (fun _ => rfl) ?_
        refine q_goto dL_push_141 rfl ?_
        refine q_goto dL_push_363 rfl ?_
        refine q_sub [3, 4, 5, 6, 7, 8, 9, 0] (fun b => [(0, .ref (b 0)), (1, .ref (b 1)), (2, .ref (b 2)), (3, .ref (b 3)), (5, .int x5), (6, .int x6), (7, .int x7), (8, .int (0 : Int32))]) (fun _ => rfl) ?_
        exact hr25 A2 A3 x5 x6 x7 (0 : Int32) h
      · refine q_iload 1 dL_push_122 rfl (fun _ => rfl) ?_
        refine q_aload_n 2 (fun b => b 0) dL_push_124 rfl rfl (fun _ => rfl) ?_
        refine q_iconst dL_push_125 rfl ki_1 ?_
        refine q_iald 0 24 yy rfl dL_push_126 rfl h (fun j51 h => ?_)
        refine q_icmp_eq dL_push_127 rfl rfl h (fun c h => ?_) (fun c h => ?_)
        · refine q_iconst dL_push_138 rfl ki_0 ?_
          refine q_istoreV (fun b => [(8, .int (0 : Int32)), (11, .int x_49), (10, .int x_47), (0, .ref (b 0)), (1, .ref (b 1)), (2, .ref (b 2)), (3, .ref (b 3)), (5, .int x5), (6, .int x6), (7, .int x7), (9, .int x9)]) dL_push_139 rfl (show 8 < 14 by decide) (fun _ => rfl) ?_
          refine q_goto dL_push_141 rfl ?_
          refine q_goto dL_push_363 rfl ?_
          refine q_sub [3, 4, 5, 6, 7, 8, 9, 0] (fun b => [(0, .ref (b 0)), (1, .ref (b 1)), (2, .ref (b 2)), (3, .ref (b 3)), (5, .int x5), (6, .int x6), (7, .int x7), (8, .int (0 : Int32))]) (fun _ => rfl) ?_
          exact hr25 A2 A3 x5 x6 x7 (0 : Int32) h
        · refine q_aload_n 3 (fun b => b 1) dL_push_130 rfl rfl (fun _ => rfl) ?_
          refine q_iload 0 dL_push_131 rfl (fun _ => rfl) ?_
          refine q_iald 1 36 gg rfl dL_push_133 rfl h (fun j52 h => ?_)
          refine q_iconst dL_push_134 rfl ki_1 ?_
          refine q_icmp_ne dL_push_135 rfl rfl h (fun c h => ?_) (fun c h => ?_)
          · refine q_aload_n 4 (fun b => b 2) dL_push_144 rfl rfl (fun _ => rfl) ?_
            refine q_iload 0 dL_push_145 rfl (fun _ => rfl) ?_
            refine q_pick [0, 1, 3, 2] [.inl (24, yy), .inl (36, gg), .inr (3, A3), .inl (6, A2)] [0, 1, 3, 2] (fun b => [(11, .int x_49), (10, .int x_47), (0, .ref (b 0)), (1, .ref (b 1)), (2, .ref (b 3)), (3, .ref (b 2)), (5, .int x5), (6, .int x6), (7, .int x7), (9, .int x9)]) (fun b => [.int x_49, .ref (b 3)]) rfl rfl (by decide) rfl (fun _ => rfl) (fun _ => rfl) ?_
            obtain ⟨o53, hc, h⟩ := bn_of h
            refine q_call [.inl (24, yy), .inl (36, gg), .inr (3, A3)] 3 (fun b => [.ref (b 3), .int x_49]) (fun _ => []) (coL_who A2 x_49 o53 hc) rfl rfl rfl ms_RL_29 (by decide) (Or.inl rfl) (fun _ => rfl) (fun _ => rfl) (fun _ => rfl) (fun _ => Nat.le_of_ble_eq_true rfl) dL_push_147 rfl ?_
            show JQ Y mL_push (none) [0, 1, 3, 2] [.inl (24, yy), .inl (36, gg), .inr (3, A3), .inl (6, A2)] _ 150 (fun b => [(11, .int x_49), (10, .int x_47), (0, .ref (b 0)), (1, .ref (b 1)), (2, .ref (b 3)), (3, .ref (b 2)), (5, .int x5), (6, .int x6), (7, .int x7), (9, .int x9)]) (fun _ => [.int o53])
            refine q_if_lt dL_push_150 rfl rfl h (fun c h => ?_) (fun c h => ?_)
            · refine q_aload_n 5 (fun b => b 2) dL_push_190 rfl rfl (fun _ => rfl) ?_
              refine q_iconst dL_push_191 rfl ki_1 ?_
              refine q_dup2 (v := fun b => .int (1 : Int32)) (w := fun b => .ref (b 2)) dL_push_192 rfl (fun _ => rfl) (fun _ => rfl) ?_
              refine q_lald 2 3 A3 rfl dL_push_193 rfl h (fun j54 h => ?_)
              refine q_lconst dL_push_194 rfl kl_1 ?_
              refine q_iload 0 dL_push_195 rfl (fun _ => rfl) ?_
              refine q_lshl dL_push_197 rfl ?_
              refine q_lor dL_push_198 rfl ?_
              refine q_last 2 3 A3 (fun f55 => [.inl (24, yy), .inl (36, gg), .inr (3, f55), .inl (6, A2)]) rfl (fun _ => rfl) dL_push_199 rfl h (fun f55 h => ?_)
              refine q_aload_n 3 (fun b => b 1) dL_push_200 rfl rfl (fun _ => rfl) ?_
              refine q_iload 0 dL_push_201 rfl (fun _ => rfl) ?_
              refine q_iald 1 36 gg rfl dL_push_203 rfl h (fun j56 h => ?_)
              refine q_iconst dL_push_204 rfl ki_3 ?_
              refine q_icmp_ne dL_push_205 rfl rfl h (fun c h => ?_) (fun c h => ?_)
              · refine q_iconst dL_push_225 rfl ki_0 ?_
                refine q_sub [2, 3, 4, 5, 6, 7, 8, 0] (fun b => [(0, .ref (b 0)), (1, .ref (b 1)), (2, .ref (b 3)), (3, .ref (b 2)), (5, .int x5), (6, .int x6), (7, .int x7), (11, .int x_49)]) (fun _ => rfl) ?_
                refine q_pick [0, 1, 3, 2] [.inl (24, yy), .inl (36, gg), .inl (6, A2), .inr (3, f55)] [0, 1, 2, 3] (fun b => [(0, .ref (b 0)), (1, .ref (b 1)), (2, .ref (b 2)), (3, .ref (b 3)), (5, .int x5), (6, .int x6), (7, .int x7), (11, .int x_49)]) (fun _ => [.int (0 : Int32)]) rfl rfl (by decide) rfl (fun _ => rfl) (fun _ => rfl) ?_
                exact jL_push_226 yy gg hE rl25 hr25 A2 f55 x5 x6 x7 x_49 (0 : Int32) h
              · refine q_aload_n 5 (fun b => b 2) dL_push_208 rfl rfl (fun _ => rfl) ?_
                refine q_iconst dL_push_209 rfl ki_0 ?_
                refine q_lald 2 3 f55 rfl dL_push_210 rfl h (fun j57 h => ?_)
                refine q_iload 0 dL_push_211 rfl (fun _ => rfl) ?_
                refine q_lshr dL_push_213 rfl ?_
                refine q_lconst dL_push_214 rfl kl_1 ?_
                refine q_land dL_push_215 rfl ?_
                refine q_lconst dL_push_216 rfl kl_0 ?_
                refine q_lcmp dL_push_217 rfl ?_
                refine q_if_ne dL_push_218 rfl rfl h (fun c h => ?_) (fun c h => ?_)
                · refine q_iconst dL_push_225 rfl ki_0 ?_
                  refine q_sub [2, 3, 4, 5, 6, 7, 8, 0] (fun b => [(0, .ref (b 0)), (1, .ref (b 1)), (2, .ref (b 3)), (3, .ref (b 2)), (5, .int x5), (6, .int x6), (7, .int x7), (11, .int x_49)]) (fun _ => rfl) ?_
                  refine q_pick [0, 1, 3, 2] [.inl (24, yy), .inl (36, gg), .inl (6, A2), .inr (3, f55)] [0, 1, 2, 3] (fun b => [(0, .ref (b 0)), (1, .ref (b 1)), (2, .ref (b 2)), (3, .ref (b 3)), (5, .int x5), (6, .int x6), (7, .int x7), (11, .int x_49)]) (fun _ => [.int (0 : Int32)]) rfl rfl (by decide) rfl (fun _ => rfl) (fun _ => rfl) ?_
                  exact jL_push_226 yy gg hE rl25 hr25 A2 f55 x5 x6 x7 x_49 (0 : Int32) h
                · refine q_iconst dL_push_221 rfl ki_1 ?_
                  refine q_goto dL_push_222 rfl ?_
                  refine q_sub [2, 3, 4, 5, 6, 7, 8, 0] (fun b => [(0, .ref (b 0)), (1, .ref (b 1)), (2, .ref (b 3)), (3, .ref (b 2)), (5, .int x5), (6, .int x6), (7, .int x7), (11, .int x_49)]) (fun _ => rfl) ?_
                  refine q_pick [0, 1, 3, 2] [.inl (24, yy), .inl (36, gg), .inl (6, A2), .inr (3, f55)] [0, 1, 2, 3] (fun b => [(0, .ref (b 0)), (1, .ref (b 1)), (2, .ref (b 2)), (3, .ref (b 3)), (5, .int x5), (6, .int x6), (7, .int x7), (11, .int x_49)]) (fun _ => [.int (1 : Int32)]) rfl rfl (by decide) rfl (fun _ => rfl) (fun _ => rfl) ?_
                  exact jL_push_226 yy gg hE rl25 hr25 A2 f55 x5 x6 x7 x_49 (1 : Int32) h
            · refine q_aload_n 2 (fun b => b 0) dL_push_153 rfl rfl (fun _ => rfl) ?_
              refine q_iconst dL_push_154 rfl ki_4 ?_
              refine q_iload 8 dL_push_155 rfl (fun _ => rfl) ?_
              refine q_iadd dL_push_157 rfl ?_
              refine q_iald 0 24 yy rfl dL_push_158 rfl h (fun j58 h => ?_)
              refine q_if_le dL_push_159 rfl rfl h (fun c h => ?_) (fun c h => ?_)
              · refine q_iconst dL_push_166 rfl ki_0 ?_
                refine q_sub [2, 3, 4, 5, 6, 7, 8, 0] (fun b => [(0, .ref (b 0)), (1, .ref (b 1)), (2, .ref (b 3)), (3, .ref (b 2)), (5, .int x5), (6, .int x6), (7, .int x7), (11, .int x_49)]) (fun _ => rfl) ?_
                refine q_pick [0, 1, 3, 2] [.inl (24, yy), .inl (36, gg), .inl (6, A2), .inr (3, A3)] [0, 1, 2, 3] (fun b => [(0, .ref (b 0)), (1, .ref (b 1)), (2, .ref (b 2)), (3, .ref (b 3)), (5, .int x5), (6, .int x6), (7, .int x7), (11, .int x_49)]) (fun _ => [.int (0 : Int32)]) rfl rfl (by decide) rfl (fun _ => rfl) (fun _ => rfl) ?_
                exact jL_push_167 yy gg hE rl25 hr25 A2 A3 x5 x6 x7 x_49 (0 : Int32) h
              · refine q_iconst dL_push_162 rfl ki_1 ?_
                refine q_goto dL_push_163 rfl ?_
                refine q_sub [2, 3, 4, 5, 6, 7, 8, 0] (fun b => [(0, .ref (b 0)), (1, .ref (b 1)), (2, .ref (b 3)), (3, .ref (b 2)), (5, .int x5), (6, .int x6), (7, .int x7), (11, .int x_49)]) (fun _ => rfl) ?_
                refine q_pick [0, 1, 3, 2] [.inl (24, yy), .inl (36, gg), .inl (6, A2), .inr (3, A3)] [0, 1, 2, 3] (fun b => [(0, .ref (b 0)), (1, .ref (b 1)), (2, .ref (b 2)), (3, .ref (b 3)), (5, .int x5), (6, .int x6), (7, .int x7), (11, .int x_49)]) (fun _ => [.int (1 : Int32)]) rfl rfl (by decide) rfl (fun _ => rfl) (fun _ => rfl) ?_
                exact jL_push_167 yy gg hE rl25 hr25 A2 A3 x5 x6 x7 x_49 (1 : Int32) h
          · refine q_iconst dL_push_138 rfl ki_0 ?_
            refine q_istoreV (fun b => [(8, .int (0 : Int32)), (11, .int x_49), (10, .int x_47), (0, .ref (b 0)), (1, .ref (b 1)), (2, .ref (b 2)), (3, .ref (b 3)), (5, .int x5), (6, .int x6), (7, .int x7), (9, .int x9)]) dL_push_139 rfl (show 8 < 14 by decide) (fun _ => rfl) ?_
            refine q_goto dL_push_141 rfl ?_
            refine q_goto dL_push_363 rfl ?_
            refine q_sub [3, 4, 5, 6, 7, 8, 9, 0] (fun b => [(0, .ref (b 0)), (1, .ref (b 1)), (2, .ref (b 2)), (3, .ref (b 3)), (5, .int x5), (6, .int x6), (7, .int x7), (8, .int (0 : Int32))]) (fun _ => rfl) ?_
            exact hr25 A2 A3 x5 x6 x7 (0 : Int32) h
noncomputable def FL_push_58 (yy : Nat → Int32) (gg : Nat → Int32) (rl25 : (Nat → Int32) → (Nat → Int64) → Int32 → Int32 → Int32 → Int32 → Option (Int32 × (Nat → Int32) × (Nat → Int64))) (A2 : Nat → Int32) (A3 : Nat → Int64) (x5 : Int32) (x6 : Int32) (x7 : Int32) (s0 : Int32) (s1 : Int32) : Option (Int32 × (Nat → Int32) × (Nat → Int64)) :=
  nm (s1 + s0) fun x_59 =>
  rd x7 6 fun j60 =>
  rd (1 : Int32) 24 fun j61 =>
  dzI (yy j61) <|
  if x5 = (1 : Int32) then
  (FL_push_90 yy gg rl25 A2 A3 x5 x6 x7 x_59 (1 : Int32) ((A2 j60) - (A2 j60) / (yy j61) * (yy j61)))
  else
  (if x5 = (3 : Int32) then
  (FL_push_90 yy gg rl25 A2 A3 x5 x6 x7 x_59 (-1 : Int32) ((A2 j60) - (A2 j60) / (yy j61) * (yy j61)))
  else
  (FL_push_90 yy gg rl25 A2 A3 x5 x6 x7 x_59 (0 : Int32) ((A2 j60) - (A2 j60) / (yy j61) * (yy j61))))
set_option maxHeartbeats 4000000 in
set_option maxRecDepth 100000 in
theorem jL_push_58 {Y : QX} {out : Int32 × (Nat → Int32) × (Nat → Int64)} (yy : Nat → Int32) (gg : Nat → Int32) (hE : EndQ Y mL_push .ireturn [0, 1, 2, 3] none [.inl (24, yy), .inl (36, gg), .inl (6, out.2.1), .inr (3, out.2.2)] (fun _ => [.int out.1])) (rl25 : (Nat → Int32) → (Nat → Int64) → Int32 → Int32 → Int32 → Int32 → Option (Int32 × (Nat → Int32) × (Nat → Int64))) (hr25 : ∀ (A2 : Nat → Int32) (A3 : Nat → Int64) (x5 : Int32) (x6 : Int32) (x7 : Int32) (x8 : Int32), rl25 A2 A3 x5 x6 x7 x8 = some out → JQ Y mL_push (none) [0, 1, 2, 3] [.inl (24, yy), .inl (36, gg), .inl (6, A2), .inr (3, A3)] 0 25 (fun b => [(0, .ref (b 0)), (1, .ref (b 1)), (2, .ref (b 2)), (3, .ref (b 3)), (5, .int x5), (6, .int x6), (7, .int x7), (8, .int x8)]) (fun _ => [])) (A2 : Nat → Int32) (A3 : Nat → Int64) (x5 : Int32) (x6 : Int32) (x7 : Int32) (s0 : Int32) (s1 : Int32) (h : FL_push_58 yy gg rl25 A2 A3 x5 x6 x7 s0 s1 = some out) : JQ Y mL_push (none) [0, 1, 2, 3] [.inl (24, yy), .inl (36, gg), .inl (6, A2), .inr (3, A3)] 0 58 (fun b => [(0, .ref (b 0)), (1, .ref (b 1)), (2, .ref (b 2)), (3, .ref (b 3)), (5, .int x5), (6, .int x6), (7, .int x7)]) (fun _ => [.int s0, .int s1]) := by
  refine q_iadd dL_push_58 rfl ?_
  refine q_istore (fun x_59 => (fun b => [(9, .int x_59), (0, .ref (b 0)), (1, .ref (b 1)), (2, .ref (b 2)), (3, .ref (b 3)), (5, .int x5), (6, .int x6), (7, .int x7)])) dL_push_59 rfl (show 9 < 14 by decide) (fun _ _ => rfl) h (fun x_59 h => ?_)
  refine q_aload_n 3 (fun b => b 2) dL_push_61 rfl rfl (fun _ => rfl) ?_
  refine q_iload 7 dL_push_62 rfl (fun _ => rfl) ?_
  refine q_iald 2 6 A2 rfl dL_push_64 rfl h (fun j60 h => ?_)
  refine q_aload_n 1 (fun b => b 0) dL_push_65 rfl rfl (fun _ => rfl) ?_
  refine q_iconst dL_push_66 rfl ki_1 ?_
  refine q_iald 0 24 yy rfl dL_push_67 rfl h (fun j61 h => ?_)
  refine q_irem dL_push_68 rfl h (fun h => ?_)
  refine q_iload 5 dL_push_69 rfl (fun _ => rfl) ?_
  refine q_iconst dL_push_71 rfl ki_1 ?_
  refine q_icmp_ne dL_push_72 rfl rfl h (fun c h => ?_) (fun c h => ?_)
  · refine q_iload 5 dL_push_79 rfl (fun _ => rfl) ?_
    refine q_iconst dL_push_81 rfl ki_3 ?_
    refine q_icmp_ne dL_push_82 rfl rfl h (fun c h => ?_) (fun c h => ?_)
    · refine q_iconst dL_push_89 rfl ki_0 ?_
      refine q_sub [1, 2, 3, 4, 5, 6, 7, 0] (fun b => [(0, .ref (b 0)), (1, .ref (b 1)), (2, .ref (b 2)), (3, .ref (b 3)), (5, .int x5), (6, .int x6), (7, .int x7), (9, .int x_59)]) (fun _ => rfl) ?_
      exact jL_push_90 yy gg hE rl25 hr25 A2 A3 x5 x6 x7 x_59 (0 : Int32) ((A2 j60) - (A2 j60) / (yy j61) * (yy j61)) h
    · refine q_iconst dL_push_85 rfl ki_m1 ?_
      refine q_goto dL_push_86 rfl ?_
      refine q_sub [1, 2, 3, 4, 5, 6, 7, 0] (fun b => [(0, .ref (b 0)), (1, .ref (b 1)), (2, .ref (b 2)), (3, .ref (b 3)), (5, .int x5), (6, .int x6), (7, .int x7), (9, .int x_59)]) (fun _ => rfl) ?_
      exact jL_push_90 yy gg hE rl25 hr25 A2 A3 x5 x6 x7 x_59 (-1 : Int32) ((A2 j60) - (A2 j60) / (yy j61) * (yy j61)) h
  · refine q_iconst dL_push_75 rfl ki_1 ?_
    refine q_goto dL_push_76 rfl ?_
    refine q_sub [1, 2, 3, 4, 5, 6, 7, 0] (fun b => [(0, .ref (b 0)), (1, .ref (b 1)), (2, .ref (b 2)), (3, .ref (b 3)), (5, .int x5), (6, .int x6), (7, .int x7), (9, .int x_59)]) (fun _ => rfl) ?_
    exact jL_push_90 yy gg hE rl25 hr25 A2 A3 x5 x6 x7 x_59 (1 : Int32) ((A2 j60) - (A2 j60) / (yy j61) * (yy j61)) h
noncomputable def BL_push_25 (yy : Nat → Int32) (gg : Nat → Int32) (rl25 : (Nat → Int32) → (Nat → Int64) → Int32 → Int32 → Int32 → Int32 → Option (Int32 × (Nat → Int32) × (Nat → Int64))) (A2 : Nat → Int32) (A3 : Nat → Int64) (x5 : Int32) (x6 : Int32) (x7 : Int32) (x8 : Int32) : Option (Int32 × (Nat → Int32) × (Nat → Int64)) :=
  if x8 = 0 then
  (rd (1 : Int32) 3 fun j62 =>
  if (lg_cmp (A3 j62) (0 : Int64)) = 0 then
  (some ((-1 : Int32), A2, A3))
  else
  (some (x6, A2, A3)))
  else
  (rd x7 6 fun j63 =>
  rd (1 : Int32) 24 fun j64 =>
  dzI (yy j64) <|
  if x5 = (2 : Int32) then
  (FL_push_58 yy gg rl25 A2 A3 x5 x6 x7 (1 : Int32) ((A2 j63) / (yy j64)))
  else
  (if x5 = 0 then
  (FL_push_58 yy gg rl25 A2 A3 x5 x6 x7 (-1 : Int32) ((A2 j63) / (yy j64)))
  else
  (FL_push_58 yy gg rl25 A2 A3 x5 x6 x7 (0 : Int32) ((A2 j63) / (yy j64)))))
set_option maxHeartbeats 4000000 in
set_option maxRecDepth 100000 in
theorem jL_push_25 {Y : QX} {out : Int32 × (Nat → Int32) × (Nat → Int64)} (yy : Nat → Int32) (gg : Nat → Int32) (hE : EndQ Y mL_push .ireturn [0, 1, 2, 3] none [.inl (24, yy), .inl (36, gg), .inl (6, out.2.1), .inr (3, out.2.2)] (fun _ => [.int out.1])) (rl25 : (Nat → Int32) → (Nat → Int64) → Int32 → Int32 → Int32 → Int32 → Option (Int32 × (Nat → Int32) × (Nat → Int64))) (hr25 : ∀ (A2 : Nat → Int32) (A3 : Nat → Int64) (x5 : Int32) (x6 : Int32) (x7 : Int32) (x8 : Int32), rl25 A2 A3 x5 x6 x7 x8 = some out → JQ Y mL_push (none) [0, 1, 2, 3] [.inl (24, yy), .inl (36, gg), .inl (6, A2), .inr (3, A3)] 0 25 (fun b => [(0, .ref (b 0)), (1, .ref (b 1)), (2, .ref (b 2)), (3, .ref (b 3)), (5, .int x5), (6, .int x6), (7, .int x7), (8, .int x8)]) (fun _ => [])) (A2 : Nat → Int32) (A3 : Nat → Int64) (x5 : Int32) (x6 : Int32) (x7 : Int32) (x8 : Int32) (h : BL_push_25 yy gg rl25 A2 A3 x5 x6 x7 x8 = some out) : JQ Y mL_push (none) [0, 1, 2, 3] [.inl (24, yy), .inl (36, gg), .inl (6, A2), .inr (3, A3)] 0 25 (fun b => [(0, .ref (b 0)), (1, .ref (b 1)), (2, .ref (b 2)), (3, .ref (b 3)), (5, .int x5), (6, .int x6), (7, .int x7), (8, .int x8)]) (fun _ => []) := by
  refine q_iload 7 dL_push_25 rfl (fun _ => rfl) ?_
  refine q_if_eq dL_push_27 rfl rfl h (fun c h => ?_) (fun c h => ?_)
  · refine q_aload_n 3 (fun b => b 3) dL_push_366 rfl rfl (fun _ => rfl) ?_
    refine q_iconst dL_push_367 rfl ki_1 ?_
    refine q_lald 3 3 A3 rfl dL_push_368 rfl h (fun j62 h => ?_)
    refine q_lconst dL_push_369 rfl kl_0 ?_
    refine q_lcmp dL_push_370 rfl ?_
    refine q_if_ne dL_push_371 rfl rfl h (fun c h => ?_) (fun c h => ?_)
    · refine q_iload 5 dL_push_378 rfl (fun _ => rfl) ?_
      cases h
      exact hE _ _ _ dL_push_380
    · refine q_iconst dL_push_374 rfl ki_m1 ?_
      refine q_goto dL_push_375 rfl ?_
      cases h
      exact hE _ _ _ dL_push_380
  · refine q_aload_n 2 (fun b => b 2) dL_push_30 rfl rfl (fun _ => rfl) ?_
    refine q_iload 6 dL_push_31 rfl (fun _ => rfl) ?_
    refine q_iald 2 6 A2 rfl dL_push_33 rfl h (fun j63 h => ?_)
    refine q_aload_n 0 (fun b => b 0) dL_push_34 rfl rfl (fun _ => rfl) ?_
    refine q_iconst dL_push_35 rfl ki_1 ?_
    refine q_iald 0 24 yy rfl dL_push_36 rfl h (fun j64 h => ?_)
    refine q_idiv dL_push_37 rfl h (fun h => ?_)
    refine q_iload 4 dL_push_38 rfl (fun _ => rfl) ?_
    refine q_iconst dL_push_40 rfl ki_2 ?_
    refine q_icmp_ne dL_push_41 rfl rfl h (fun c h => ?_) (fun c h => ?_)
    · refine q_iload 4 dL_push_48 rfl (fun _ => rfl) ?_
      refine q_if_ne dL_push_50 rfl rfl h (fun c h => ?_) (fun c h => ?_)
      · refine q_iconst dL_push_57 rfl ki_0 ?_
        refine q_sub [0, 1, 2, 3, 4, 5, 6] (fun b => [(0, .ref (b 0)), (1, .ref (b 1)), (2, .ref (b 2)), (3, .ref (b 3)), (5, .int x5), (6, .int x6), (7, .int x7)]) (fun _ => rfl) ?_
        exact jL_push_58 yy gg hE rl25 hr25 A2 A3 x5 x6 x7 (0 : Int32) ((A2 j63) / (yy j64)) h
      · refine q_iconst dL_push_53 rfl ki_m1 ?_
        refine q_goto dL_push_54 rfl ?_
        refine q_sub [0, 1, 2, 3, 4, 5, 6] (fun b => [(0, .ref (b 0)), (1, .ref (b 1)), (2, .ref (b 2)), (3, .ref (b 3)), (5, .int x5), (6, .int x6), (7, .int x7)]) (fun _ => rfl) ?_
        exact jL_push_58 yy gg hE rl25 hr25 A2 A3 x5 x6 x7 (-1 : Int32) ((A2 j63) / (yy j64)) h
    · refine q_iconst dL_push_44 rfl ki_1 ?_
      refine q_goto dL_push_45 rfl ?_
      refine q_sub [0, 1, 2, 3, 4, 5, 6] (fun b => [(0, .ref (b 0)), (1, .ref (b 1)), (2, .ref (b 2)), (3, .ref (b 3)), (5, .int x5), (6, .int x6), (7, .int x7)]) (fun _ => rfl) ?_
      exact jL_push_58 yy gg hE rl25 hr25 A2 A3 x5 x6 x7 (1 : Int32) ((A2 j63) / (yy j64)) h
noncomputable def FL_push_25 (yy : Nat → Int32) (gg : Nat → Int32) (fu : Nat) : (Nat → Int32) → (Nat → Int64) → Int32 → Int32 → Int32 → Int32 → Option (Int32 × (Nat → Int32) × (Nat → Int64)) :=
  Nat.rec (fun _ _ _ _ _ _ => none) (fun _ ih => BL_push_25 yy gg ih) fu
theorem lL_push_25 {Y : QX} {out : Int32 × (Nat → Int32) × (Nat → Int64)} (yy : Nat → Int32) (gg : Nat → Int32) (hE : EndQ Y mL_push .ireturn [0, 1, 2, 3] none [.inl (24, yy), .inl (36, gg), .inl (6, out.2.1), .inr (3, out.2.2)] (fun _ => [.int out.1])) : ∀ (fu : Nat) (A2 : Nat → Int32) (A3 : Nat → Int64) (x5 : Int32) (x6 : Int32) (x7 : Int32) (x8 : Int32), FL_push_25 yy gg fu A2 A3 x5 x6 x7 x8 = some out → JQ Y mL_push (none) [0, 1, 2, 3] [.inl (24, yy), .inl (36, gg), .inl (6, A2), .inr (3, A3)] 0 25 (fun b => [(0, .ref (b 0)), (1, .ref (b 1)), (2, .ref (b 2)), (3, .ref (b 3)), (5, .int x5), (6, .int x6), (7, .int x7), (8, .int x8)]) (fun _ => []) := by
  intro fu
  induction fu with
  | zero => intro A2 A3 x5 x6 x7 x8 h; exact nn h
  | succ fu ih => intro A2 A3 x5 x6 x7 x8 h; exact jL_push_25 yy gg hE (FL_push_25 yy gg fu) ih A2 A3 x5 x6 x7 x8 h
noncomputable def FL_push (yy : Nat → Int32) (gg : Nat → Int32) (ll : Nat → Int32) (ss : Nat → Int64) (a4 : Int32) (a5 : Int32) : Option (Int32 × (Nat → Int32) × (Nat → Int64)) :=
  stB (1 : Int32) 3 ss (0 : Int64) fun f65 =>
  rd a4 6 fun j66 =>
  if (ll j66) < 0 then
  (FL_push_25 yy gg FU ll f65 a5 (0 : Int32) a4 (0 : Int32))
  else
  (FL_push_25 yy gg FU ll f65 a5 (0 : Int32) a4 (1 : Int32))
set_option maxHeartbeats 4000000 in
set_option maxRecDepth 100000 in
theorem eL_push {Y : QX} {out : Int32 × (Nat → Int32) × (Nat → Int64)} (yy : Nat → Int32) (gg : Nat → Int32) (hE : EndQ Y mL_push .ireturn [0, 1, 2, 3] none [.inl (24, yy), .inl (36, gg), .inl (6, out.2.1), .inr (3, out.2.2)] (fun _ => [.int out.1])) (ll : Nat → Int32) (ss : Nat → Int64) (a4 : Int32) (a5 : Int32) (h : FL_push yy gg ll ss a4 a5 = some out) : JQ Y mL_push (none) [0, 1, 2, 3] [.inl (24, yy), .inl (36, gg), .inl (6, ll), .inr (3, ss)] 0 0 (fun b => [(0, .ref (b 0)), (1, .ref (b 1)), (2, .ref (b 2)), (3, .ref (b 3)), (4, .int a4), (5, .int a5)]) (fun _ => []) := by
  refine q_aload_n 3 (fun b => b 3) dL_push_0 rfl rfl (fun _ => rfl) ?_
  refine q_iconst dL_push_1 rfl ki_1 ?_
  refine q_lconst dL_push_2 rfl kl_0 ?_
  refine q_last 3 3 ss (fun f65 => [.inl (24, yy), .inl (36, gg), .inl (6, ll), .inr (3, f65)]) rfl (fun _ => rfl) dL_push_3 rfl h (fun f65 h => ?_)
  refine q_iconst dL_push_4 rfl ki_0 ?_
  refine q_istoreV (fun b => [(6, .int (0 : Int32)), (0, .ref (b 0)), (1, .ref (b 1)), (2, .ref (b 2)), (3, .ref (b 3)), (4, .int a4), (5, .int a5)]) dL_push_5 rfl (show 6 < 14 by decide) (fun _ => rfl) ?_
  refine q_iload 5 dL_push_7 rfl (fun _ => rfl) ?_
  refine q_istoreV (fun b => [(7, .int a4), (6, .int (0 : Int32)), (0, .ref (b 0)), (1, .ref (b 1)), (2, .ref (b 2)), (3, .ref (b 3)), (4, .int a4), (5, .int a5)]) dL_push_9 rfl (show 7 < 14 by decide) (fun _ => rfl) ?_
  refine q_aload_n 4 (fun b => b 2) dL_push_11 rfl rfl (fun _ => rfl) ?_
  refine q_iload 6 dL_push_12 rfl (fun _ => rfl) ?_
  refine q_iald 2 6 ll rfl dL_push_14 rfl h (fun j66 h => ?_)
  refine q_if_lt dL_push_15 rfl rfl h (fun c h => ?_) (fun c h => ?_)
  · refine q_iconst dL_push_22 rfl ki_0 ?_
    refine q_istoreV (fun b => [(8, .int (0 : Int32)), (7, .int a4), (6, .int (0 : Int32)), (0, .ref (b 0)), (1, .ref (b 1)), (2, .ref (b 2)), (3, .ref (b 3)), (4, .int a4), (5, .int a5)]) dL_push_23 rfl (show 8 < 14 by decide) (fun _ => rfl) ?_
    refine q_sub [3, 4, 5, 6, 8, 2, 1, 0] (fun b => [(0, .ref (b 0)), (1, .ref (b 1)), (2, .ref (b 2)), (3, .ref (b 3)), (5, .int a5), (6, .int (0 : Int32)), (7, .int a4), (8, .int (0 : Int32))]) (fun _ => rfl) ?_
    exact lL_push_25 yy gg hE FU ll f65 a5 (0 : Int32) a4 (0 : Int32) h
  · refine q_iconst dL_push_18 rfl ki_1 ?_
    refine q_goto dL_push_19 rfl ?_
    refine q_istoreV (fun b => [(8, .int (1 : Int32)), (7, .int a4), (6, .int (0 : Int32)), (0, .ref (b 0)), (1, .ref (b 1)), (2, .ref (b 2)), (3, .ref (b 3)), (4, .int a4), (5, .int a5)]) dL_push_23 rfl (show 8 < 14 by decide) (fun _ => rfl) ?_
    refine q_sub [3, 4, 5, 6, 8, 2, 1, 0] (fun b => [(0, .ref (b 0)), (1, .ref (b 1)), (2, .ref (b 2)), (3, .ref (b 3)), (5, .int a5), (6, .int (0 : Int32)), (7, .int a4), (8, .int (1 : Int32))]) (fun _ => rfl) ?_
    exact lL_push_25 yy gg hE FU ll f65 a5 (0 : Int32) a4 (1 : Int32) h
theorem coL_push {L : Nat} {xs : Nat → Int32} (yy : Nat → Int32) (gg : Nat → Int32) (ll : Nat → Int32) (ss : Nat → Int64) (a4 : Int32) (a5 : Int32) (o : Int32 × (Nat → Int32) × (Nat → Int64)) (h : FL_push yy gg ll ss a4 a5 = some o) : ConQ .ireturn 2 0 yL_push cL_push 14 (some .int) L xs (fun b ad b0 => [.ref (b 0), .ref (b 1), .ref (b 2), .ref (b 3), .int a4, .int a5]) [.inl (24, yy), .inl (36, gg), .inl (6, ll), .inr (3, ss)] none (fun _ => .int o.1) [.inl (24, yy), .inl (36, gg), .inl (6, o.2.1), .inr (3, o.2.2)] none :=
  conQ_of (by decide +kernel) rfl (fun _ _ _ => Nat.le_of_ble_eq_true rfl) (Or.inl ⟨rfl, Or.inl ⟨rfl, fun _ => ⟨_, rfl⟩⟩⟩) (fun Y hL hx hE => by
    subst hL; subst hx
    exact eL_push yy gg hE ll ss a4 a5 h)
-- copied
abbrev mL_copied : MQD := (cL_copied, 3, (some (.array .int)), 1, 1)
noncomputable def BL_copied_7 (ll : Nat → Int32) (rl7 : Nat → (Nat → Int32) → Int32 → Option (Nat → Int32)) (n : Nat) (A1 : Nat → Int32) (x2 : Int32) : Option (Nat → Int32) :=
  if (6 : Int32) ≤ x2 then
  (some A1)
  else
  (rd x2 6 fun j5 =>
  stA x2 6 A1 (ll j5) fun f6 =>
  nm (x2 + (1 : Int32)) fun x_7 =>
  rl7 n f6 x_7)
set_option maxHeartbeats 4000000 in
set_option maxRecDepth 100000 in
theorem jL_copied_7 {Y : QX} {out : Nat → Int32} (ll : Nat → Int32) (hE : EndQ Y mL_copied .areturn [0] none [.inl (6, ll), .inl (6, out)] (fun b => [.ref (b 1)])) (rl7 : Nat → (Nat → Int32) → Int32 → Option (Nat → Int32)) (hr7 : ∀ (n : Nat) (A1 : Nat → Int32) (x2 : Int32), rl7 n A1 x2 = some out → JQ Y mL_copied (none) [0] [.inl (6, ll), .inl (6, A1)] n 7 (fun b => [(0, .ref (b 0)), (1, .ref (b 1)), (2, .int x2)]) (fun _ => [])) (n : Nat) (A1 : Nat → Int32) (x2 : Int32) (h : BL_copied_7 ll rl7 n A1 x2 = some out) : JQ Y mL_copied (none) [0] [.inl (6, ll), .inl (6, A1)] n 7 (fun b => [(0, .ref (b 0)), (1, .ref (b 1)), (2, .int x2)]) (fun _ => []) := by
  refine q_iload_n 2 dL_copied_7 rfl rfl (fun _ => rfl) ?_
  refine q_bipush dL_copied_8 rfl kb_6 ?_
  refine q_icmp_ge dL_copied_10 rfl rfl h (fun c h => ?_) (fun c h => ?_)
  · refine q_aload_n 1 (fun b => b 1) dL_copied_25 rfl rfl (fun _ => rfl) ?_
    cases h
    exact hE _ _ _ dL_copied_26
  · refine q_aload_n 1 (fun b => b 1) dL_copied_13 rfl rfl (fun _ => rfl) ?_
    refine q_iload_n 2 dL_copied_14 rfl rfl (fun _ => rfl) ?_
    refine q_aload_n 0 (fun b => b 0) dL_copied_15 rfl rfl (fun _ => rfl) ?_
    refine q_iload_n 2 dL_copied_16 rfl rfl (fun _ => rfl) ?_
    refine q_iald 0 6 ll rfl dL_copied_17 rfl h (fun j5 h => ?_)
    refine q_iast 1 6 A1 (fun f6 => [.inl (6, ll), .inl (6, f6)]) rfl (fun _ => rfl) dL_copied_18 rfl h (fun f6 h => ?_)
    refine q_iinc 2 (fun x_7 => (fun b => [(2, .int x_7), (0, .ref (b 0)), (1, .ref (b 1))])) dL_copied_19 rfl (fun _ => rfl) ki_1 (show 2 < 3 by decide) (fun _ _ => rfl) h (fun x_7 h => ?_)
    refine q_goto dL_copied_22 rfl ?_
    refine q_sub [1, 2, 0] (fun b => [(0, .ref (b 0)), (1, .ref (b 1)), (2, .int x_7)]) (fun _ => rfl) ?_
    exact hr7 _ f6 x_7 h
noncomputable def FL_copied_7 (ll : Nat → Int32) (fu : Nat) : Nat → (Nat → Int32) → Int32 → Option (Nat → Int32) :=
  Nat.rec (fun _ _ _ => none) (fun _ ih => BL_copied_7 ll ih) fu
theorem lL_copied_7 {Y : QX} {out : Nat → Int32} (ll : Nat → Int32) (hE : EndQ Y mL_copied .areturn [0] none [.inl (6, ll), .inl (6, out)] (fun b => [.ref (b 1)])) : ∀ (fu : Nat) (n : Nat) (A1 : Nat → Int32) (x2 : Int32), FL_copied_7 ll fu n A1 x2 = some out → JQ Y mL_copied (none) [0] [.inl (6, ll), .inl (6, A1)] n 7 (fun b => [(0, .ref (b 0)), (1, .ref (b 1)), (2, .int x2)]) (fun _ => []) := by
  intro fu
  induction fu with
  | zero => intro n A1 x2 h; exact nn h
  | succ fu ih => intro n A1 x2 h; exact jL_copied_7 ll hE (FL_copied_7 ll fu) ih n A1 x2 h
noncomputable def FL_copied (ll : Nat → Int32) (n : Nat) : Option (Nat → Int32) :=
  al 1 n 1 fun n8 =>
  FL_copied_7 ll FU n8 zI (0 : Int32)
set_option maxHeartbeats 4000000 in
set_option maxRecDepth 100000 in
theorem eL_copied {Y : QX} {out : Nat → Int32} (ll : Nat → Int32) (hE : EndQ Y mL_copied .areturn [0] none [.inl (6, ll), .inl (6, out)] (fun b => [.ref (b 1)])) (n : Nat) (h : FL_copied ll n = some out) : JQ Y mL_copied (none) [0] [.inl (6, ll)] n 0 (fun b => [(0, .ref (b 0))]) (fun _ => []) := by
  refine q_bipush dL_copied_0 rfl kb_6 ?_
  refine q_newI 1 1 6 [.inl (6, ll), .inl (6, zI)] aw_I (by decide) (by decide) (by decide) (by decide) (by decide) rfl (fun _ _ => rfl) (fun _ _ => rfl) (by decide) rfl dL_copied_2 rfl h (fun h => ?_)
  refine q_astore_n (fun b => b 1) (fun b => [(1, .ref (b 1)), (0, .ref (b 0))]) dL_copied_4 rfl rfl (show 1 < 3 by decide) (fun _ => rfl) ?_
  refine q_iconst dL_copied_5 rfl ki_0 ?_
  refine q_istoreV_n (fun b => [(2, .int (0 : Int32)), (1, .ref (b 1)), (0, .ref (b 0))]) dL_copied_6 rfl rfl (show 2 < 3 by decide) (fun _ => rfl) ?_
  refine q_sub [2, 1, 0] (fun b => [(0, .ref (b 0)), (1, .ref (b 1)), (2, .int (0 : Int32))]) (fun _ => rfl) ?_
  exact lL_copied_7 ll hE FU _ zI (0 : Int32) h
theorem coL_copied {L : Nat} {xs : Nat → Int32} (ll : Nat → Int32) (o : Nat → Int32) (h : FL_copied ll 0 = some o) : ConQ .areturn 1 1 yL_copied cL_copied 3 (some (.array .int)) L xs (fun b ad b0 => [.ref (b 0)]) [.inl (6, ll)] none (fun b => .ref (b 1)) [.inl (6, ll), .inl (6, o)] none :=
  conQ_of (by decide +kernel) rfl (fun _ _ _ => Nat.le_of_ble_eq_true rfl) (Or.inr ⟨rfl, ⟨_, rfl⟩, fun _ => ⟨_, rfl⟩⟩) (fun Y hL hx hE => by
    subst hL; subst hx
    exact eL_copied ll hE 0 h)
-- begun
abbrev mL_begun : MQD := (cL_begun, 3, (some (.array .int)), 1, 1)
noncomputable def BL_begun_7 (yy : Nat → Int32) (rl7 : Nat → (Nat → Int32) → Int32 → Option (Nat → Int32)) (n : Nat) (A1 : Nat → Int32) (x2 : Int32) : Option (Nat → Int32) :=
  if (6 : Int32) ≤ x2 then
  (some A1)
  else
  (rd (2 : Int32) 24 fun j8 =>
  if (yy j8) ≤ x2 then
  (stA x2 6 A1 (-6 : Int32) fun f9 =>
  nm (x2 + (1 : Int32)) fun x_10 =>
  rl7 n f9 x_10)
  else
  (rd ((10 : Int32) + x2) 24 fun j11 =>
  stA x2 6 A1 (yy j11) fun f12 =>
  nm (x2 + (1 : Int32)) fun x_13 =>
  rl7 n f12 x_13))
set_option maxHeartbeats 4000000 in
set_option maxRecDepth 100000 in
theorem jL_begun_7 {Y : QX} {out : Nat → Int32} (yy : Nat → Int32) (hE : EndQ Y mL_begun .areturn [0] none [.inl (24, yy), .inl (6, out)] (fun b => [.ref (b 1)])) (rl7 : Nat → (Nat → Int32) → Int32 → Option (Nat → Int32)) (hr7 : ∀ (n : Nat) (A1 : Nat → Int32) (x2 : Int32), rl7 n A1 x2 = some out → JQ Y mL_begun (none) [0] [.inl (24, yy), .inl (6, A1)] n 7 (fun b => [(0, .ref (b 0)), (1, .ref (b 1)), (2, .int x2)]) (fun _ => [])) (n : Nat) (A1 : Nat → Int32) (x2 : Int32) (h : BL_begun_7 yy rl7 n A1 x2 = some out) : JQ Y mL_begun (none) [0] [.inl (24, yy), .inl (6, A1)] n 7 (fun b => [(0, .ref (b 0)), (1, .ref (b 1)), (2, .int x2)]) (fun _ => []) := by
  refine q_iload_n 2 dL_begun_7 rfl rfl (fun _ => rfl) ?_
  refine q_bipush dL_begun_8 rfl kb_6 ?_
  refine q_icmp_ge dL_begun_10 rfl rfl h (fun c h => ?_) (fun c h => ?_)
  · refine q_aload_n 1 (fun b => b 1) dL_begun_40 rfl rfl (fun _ => rfl) ?_
    cases h
    exact hE _ _ _ dL_begun_41
  · refine q_aload_n 1 (fun b => b 1) dL_begun_13 rfl rfl (fun _ => rfl) ?_
    refine q_iload_n 2 dL_begun_14 rfl rfl (fun _ => rfl) ?_
    refine q_iload_n 2 dL_begun_15 rfl rfl (fun _ => rfl) ?_
    refine q_aload_n 0 (fun b => b 0) dL_begun_16 rfl rfl (fun _ => rfl) ?_
    refine q_iconst dL_begun_17 rfl ki_2 ?_
    refine q_iald 0 24 yy rfl dL_begun_18 rfl h (fun j8 h => ?_)
    refine q_icmp_ge dL_begun_19 rfl rfl h (fun c h => ?_) (fun c h => ?_)
    · refine q_bipush dL_begun_31 rfl kb_m6 ?_
      refine q_iast 1 6 A1 (fun f9 => [.inl (24, yy), .inl (6, f9)]) rfl (fun _ => rfl) dL_begun_33 rfl h (fun f9 h => ?_)
      refine q_iinc 2 (fun x_10 => (fun b => [(2, .int x_10), (0, .ref (b 0)), (1, .ref (b 1))])) dL_begun_34 rfl (fun _ => rfl) ki_1 (show 2 < 3 by decide) (fun _ _ => rfl) h (fun x_10 h => ?_)
      refine q_goto dL_begun_37 rfl ?_
      refine q_sub [1, 2, 0] (fun b => [(0, .ref (b 0)), (1, .ref (b 1)), (2, .int x_10)]) (fun _ => rfl) ?_
      exact hr7 _ f9 x_10 h
    · refine q_aload_n 0 (fun b => b 0) dL_begun_22 rfl rfl (fun _ => rfl) ?_
      refine q_bipush dL_begun_23 rfl kb_10 ?_
      refine q_iload_n 2 dL_begun_25 rfl rfl (fun _ => rfl) ?_
      refine q_iadd dL_begun_26 rfl ?_
      refine q_iald 0 24 yy rfl dL_begun_27 rfl h (fun j11 h => ?_)
      refine q_goto dL_begun_28 rfl ?_
      refine q_iast 1 6 A1 (fun f12 => [.inl (24, yy), .inl (6, f12)]) rfl (fun _ => rfl) dL_begun_33 rfl h (fun f12 h => ?_)
      refine q_iinc 2 (fun x_13 => (fun b => [(2, .int x_13), (0, .ref (b 0)), (1, .ref (b 1))])) dL_begun_34 rfl (fun _ => rfl) ki_1 (show 2 < 3 by decide) (fun _ _ => rfl) h (fun x_13 h => ?_)
      refine q_goto dL_begun_37 rfl ?_
      refine q_sub [1, 2, 0] (fun b => [(0, .ref (b 0)), (1, .ref (b 1)), (2, .int x_13)]) (fun _ => rfl) ?_
      exact hr7 _ f12 x_13 h
noncomputable def FL_begun_7 (yy : Nat → Int32) (fu : Nat) : Nat → (Nat → Int32) → Int32 → Option (Nat → Int32) :=
  Nat.rec (fun _ _ _ => none) (fun _ ih => BL_begun_7 yy ih) fu
theorem lL_begun_7 {Y : QX} {out : Nat → Int32} (yy : Nat → Int32) (hE : EndQ Y mL_begun .areturn [0] none [.inl (24, yy), .inl (6, out)] (fun b => [.ref (b 1)])) : ∀ (fu : Nat) (n : Nat) (A1 : Nat → Int32) (x2 : Int32), FL_begun_7 yy fu n A1 x2 = some out → JQ Y mL_begun (none) [0] [.inl (24, yy), .inl (6, A1)] n 7 (fun b => [(0, .ref (b 0)), (1, .ref (b 1)), (2, .int x2)]) (fun _ => []) := by
  intro fu
  induction fu with
  | zero => intro n A1 x2 h; exact nn h
  | succ fu ih => intro n A1 x2 h; exact jL_begun_7 yy hE (FL_begun_7 yy fu) ih n A1 x2 h
noncomputable def FL_begun (yy : Nat → Int32) (n : Nat) : Option (Nat → Int32) :=
  al 1 n 1 fun n14 =>
  FL_begun_7 yy FU n14 zI (0 : Int32)
set_option maxHeartbeats 4000000 in
set_option maxRecDepth 100000 in
theorem eL_begun {Y : QX} {out : Nat → Int32} (yy : Nat → Int32) (hE : EndQ Y mL_begun .areturn [0] none [.inl (24, yy), .inl (6, out)] (fun b => [.ref (b 1)])) (n : Nat) (h : FL_begun yy n = some out) : JQ Y mL_begun (none) [0] [.inl (24, yy)] n 0 (fun b => [(0, .ref (b 0))]) (fun _ => []) := by
  refine q_bipush dL_begun_0 rfl kb_6 ?_
  refine q_newI 1 1 6 [.inl (24, yy), .inl (6, zI)] aw_I (by decide) (by decide) (by decide) (by decide) (by decide) rfl (fun _ _ => rfl) (fun _ _ => rfl) (by decide) rfl dL_begun_2 rfl h (fun h => ?_)
  refine q_astore_n (fun b => b 1) (fun b => [(1, .ref (b 1)), (0, .ref (b 0))]) dL_begun_4 rfl rfl (show 1 < 3 by decide) (fun _ => rfl) ?_
  refine q_iconst dL_begun_5 rfl ki_0 ?_
  refine q_istoreV_n (fun b => [(2, .int (0 : Int32)), (1, .ref (b 1)), (0, .ref (b 0))]) dL_begun_6 rfl rfl (show 2 < 3 by decide) (fun _ => rfl) ?_
  refine q_sub [2, 1, 0] (fun b => [(0, .ref (b 0)), (1, .ref (b 1)), (2, .int (0 : Int32))]) (fun _ => rfl) ?_
  exact lL_begun_7 yy hE FU _ zI (0 : Int32) h
theorem coL_begun {L : Nat} {xs : Nat → Int32} (yy : Nat → Int32) (o : Nat → Int32) (h : FL_begun yy 0 = some o) : ConQ .areturn 1 1 yL_begun cL_begun 3 (some (.array .int)) L xs (fun b ad b0 => [.ref (b 0)]) [.inl (24, yy)] none (fun b => .ref (b 1)) [.inl (24, yy), .inl (6, o)] none :=
  conQ_of (by decide +kernel) rfl (fun _ _ _ => Nat.le_of_ble_eq_true rfl) (Or.inr ⟨rfl, ⟨_, rfl⟩, fun _ => ⟨_, rfl⟩⟩) (fun Y hL hx hE => by
    subst hL; subst hx
    exact eL_begun yy hE 0 h)
-- outcome
abbrev mL_outcome : MQD := (cL_outcome, 13, (some .int), 3, 2)
noncomputable def FL_outcome_100 (yy : Nat → Int32) (gg : Nat → Int32) (ll : Nat → Int32) (n : Nat) (x12 : Int32) : Option (Int32) :=
  if x12 = 0 then
  (some (0 : Int32))
  else
  (some (-1 : Int32))
set_option maxHeartbeats 4000000 in
set_option maxRecDepth 100000 in
theorem jL_outcome_100 {Y : QX} {out : Int32} (yy : Nat → Int32) (gg : Nat → Int32) (ll : Nat → Int32) (hE : EndQ Y mL_outcome .ireturn [0, 1, 2] none [.inl (24, yy), .inl (36, gg), .inl (6, ll)] (fun _ => [.int out])) (n : Nat) (x12 : Int32) (h : FL_outcome_100 yy gg ll n x12 = some out) : JQ Y mL_outcome (none) [0, 1, 2] [.inl (24, yy), .inl (36, gg), .inl (6, ll)] n 100 (fun _ => [(12, .int x12)]) (fun _ => []) := by
  refine q_iload 0 dL_outcome_100 rfl (fun _ => rfl) ?_
  refine q_if_eq dL_outcome_102 rfl rfl h (fun c h => ?_) (fun c h => ?_)
  · refine q_iconst dL_outcome_109 rfl ki_0 ?_
    cases h
    exact hE _ _ _ dL_outcome_110
  · refine q_iconst dL_outcome_105 rfl ki_m1 ?_
    refine q_goto dL_outcome_106 rfl ?_
    cases h
    exact hE _ _ _ dL_outcome_110
noncomputable def FL_outcome_79 (yy : Nat → Int32) (gg : Nat → Int32) (ll : Nat → Int32) (n : Nat) (x7 : Int32) (x11 : Int32) (s0 : Int32) : Option (Int32) :=
  if x11 = 0 then
  (FL_outcome_100 yy gg ll n s0)
  else
  (if x7 = 0 then
  (if s0 = 0 then
  (some (1 : Int32))
  else
  (FL_outcome_100 yy gg ll n s0))
  else
  (some (1 : Int32)))
set_option maxHeartbeats 4000000 in
set_option maxRecDepth 100000 in
theorem jL_outcome_79 {Y : QX} {out : Int32} (yy : Nat → Int32) (gg : Nat → Int32) (ll : Nat → Int32) (hE : EndQ Y mL_outcome .ireturn [0, 1, 2] none [.inl (24, yy), .inl (36, gg), .inl (6, ll)] (fun _ => [.int out])) (n : Nat) (x7 : Int32) (x11 : Int32) (s0 : Int32) (h : FL_outcome_79 yy gg ll n x7 x11 s0 = some out) : JQ Y mL_outcome (none) [0, 1, 2] [.inl (24, yy), .inl (36, gg), .inl (6, ll)] n 79 (fun _ => [(7, .int x7), (11, .int x11)]) (fun _ => [.int s0]) := by
  refine q_istoreV (fun _ => [(12, .int s0), (7, .int x7), (11, .int x11)]) dL_outcome_79 rfl (show 12 < 13 by decide) (fun _ => rfl) ?_
  refine q_iload 2 dL_outcome_81 rfl (fun _ => rfl) ?_
  refine q_if_eq dL_outcome_83 rfl rfl h (fun c h => ?_) (fun c h => ?_)
  · refine q_sub [0] (fun _ => [(12, .int s0)]) (fun _ => rfl) ?_
    exact jL_outcome_100 yy gg ll hE _ s0 h
  · refine q_iload 1 dL_outcome_86 rfl (fun _ => rfl) ?_
    refine q_if_ne dL_outcome_88 rfl rfl h (fun c h => ?_) (fun c h => ?_)
    · refine q_iconst dL_outcome_96 rfl ki_1 ?_
      refine q_goto dL_outcome_97 rfl ?_
      cases h
      exact hE _ _ _ dL_outcome_110
    · refine q_iload 0 dL_outcome_91 rfl (fun _ => rfl) ?_
      refine q_if_ne dL_outcome_93 rfl rfl h (fun c h => ?_) (fun c h => ?_)
      · refine q_sub [0] (fun _ => [(12, .int s0)]) (fun _ => rfl) ?_
        exact jL_outcome_100 yy gg ll hE _ s0 h
      · refine q_iconst dL_outcome_96 rfl ki_1 ?_
        refine q_goto dL_outcome_97 rfl ?_
        cases h
        exact hE _ _ _ dL_outcome_110
noncomputable def FL_outcome_59 (yy : Nat → Int32) (gg : Nat → Int32) (ll : Nat → Int32) (n : Nat) (x6 : Int32) (x7 : Int32) (x10 : Int32) (s0 : Int32) : Option (Int32) :=
  if ((x10 >>> (((1 : Int32) - x6) &&& 31)) &&& (1 : Int32)) = (1 : Int32) then
  (FL_outcome_79 yy gg ll n x7 s0 (1 : Int32))
  else
  (FL_outcome_79 yy gg ll n x7 s0 (0 : Int32))
set_option maxHeartbeats 4000000 in
set_option maxRecDepth 100000 in
theorem jL_outcome_59 {Y : QX} {out : Int32} (yy : Nat → Int32) (gg : Nat → Int32) (ll : Nat → Int32) (hE : EndQ Y mL_outcome .ireturn [0, 1, 2] none [.inl (24, yy), .inl (36, gg), .inl (6, ll)] (fun _ => [.int out])) (n : Nat) (x6 : Int32) (x7 : Int32) (x10 : Int32) (s0 : Int32) (h : FL_outcome_59 yy gg ll n x6 x7 x10 s0 = some out) : JQ Y mL_outcome (none) [0, 1, 2] [.inl (24, yy), .inl (36, gg), .inl (6, ll)] n 59 (fun _ => [(6, .int x6), (7, .int x7), (10, .int x10)]) (fun _ => [.int s0]) := by
  refine q_istoreV (fun _ => [(11, .int s0), (6, .int x6), (7, .int x7), (10, .int x10)]) dL_outcome_59 rfl (show 11 < 13 by decide) (fun _ => rfl) ?_
  refine q_iload 3 dL_outcome_61 rfl (fun _ => rfl) ?_
  refine q_iconst dL_outcome_63 rfl ki_1 ?_
  refine q_iload 1 dL_outcome_64 rfl (fun _ => rfl) ?_
  refine q_isub dL_outcome_66 rfl ?_
  refine q_ishr dL_outcome_67 rfl ?_
  refine q_iconst dL_outcome_68 rfl ki_1 ?_
  refine q_iand dL_outcome_69 rfl ?_
  refine q_iconst dL_outcome_70 rfl ki_1 ?_
  refine q_icmp_ne dL_outcome_71 rfl rfl h (fun c h => ?_) (fun c h => ?_)
  · refine q_iconst dL_outcome_78 rfl ki_0 ?_
    refine q_sub [2, 0] (fun _ => [(7, .int x7), (11, .int s0)]) (fun _ => rfl) ?_
    exact jL_outcome_79 yy gg ll hE _ x7 s0 (0 : Int32) h
  · refine q_iconst dL_outcome_74 rfl ki_1 ?_
    refine q_goto dL_outcome_75 rfl ?_
    refine q_sub [2, 0] (fun _ => [(7, .int x7), (11, .int s0)]) (fun _ => rfl) ?_
    exact jL_outcome_79 yy gg ll hE _ x7 s0 (1 : Int32) h
noncomputable def FL_outcome (yy : Nat → Int32) (gg : Nat → Int32) (ll : Nat → Int32) (n : Nat) (a3 : Int64) (a5 : Int32) (a6 : Int32) (a7 : Int32) : Option (Int32) :=
  bn (FL_copied ll 0) fun o6 =>
  al 2 n 1 fun n7 =>
  al 2 n7 1 fun n8 =>
  stB (0 : Int32) 3 zL a3 fun f9 =>
  dzI (4 : Int32) <|
  dzI (4 : Int32) <|
  bn (FL_push yy gg o6 f9 (a5 / (4 : Int32)) (a5 - a5 / (4 : Int32) * (4 : Int32))) fun o10 =>
  if 0 ≤ o10.1 then
  (if ((o10.1 >>> (a6 &&& 31)) &&& (1 : Int32)) = (1 : Int32) then
  (FL_outcome_59 yy gg ll n8 a6 a7 o10.1 (1 : Int32))
  else
  (FL_outcome_59 yy gg ll n8 a6 a7 o10.1 (0 : Int32)))
  else
  (some (-2 : Int32))
set_option maxHeartbeats 4000000 in
set_option maxRecDepth 100000 in
theorem eL_outcome {Y : QX} {out : Int32} (yy : Nat → Int32) (gg : Nat → Int32) (ll : Nat → Int32) (hE : EndQ Y mL_outcome .ireturn [0, 1, 2] none [.inl (24, yy), .inl (36, gg), .inl (6, ll)] (fun _ => [.int out])) (n : Nat) (a3 : Int64) (a5 : Int32) (a6 : Int32) (a7 : Int32) (h : FL_outcome yy gg ll n a3 a5 a6 a7 = some out) : JQ Y mL_outcome (none) [0, 1, 2] [.inl (24, yy), .inl (36, gg), .inl (6, ll)] n 0 (fun b => [(0, .ref (b 0)), (1, .ref (b 1)), (2, .ref (b 2)), (3, .long a3), (5, .int a5), (6, .int a6), (7, .int a7)]) (fun _ => []) := by
  refine q_aload_n 2 (fun b => b 2) dL_outcome_0 rfl rfl (fun _ => rfl) ?_
  obtain ⟨o6, hc, h⟩ := bn_of h
  refine q_callA [.inl (24, yy), .inl (36, gg)] 2 1 3 (fun b => [.ref (b 2)]) (fun _ => []) (coL_copied ll o6 hc) rfl rfl rfl rfl ms_RL_44 (by decide) h (fun _ => rfl) (fun _ => rfl) (fun _ => rfl) (fun _ => Nat.le_of_ble_eq_true rfl) (fun _ _ => rfl) (fun _ _ => rfl) (by decide) dL_outcome_1 rfl (fun h => ?_)
  show JQ Y mL_outcome (none) [0, 1, 2] [.inl (24, yy), .inl (36, gg), .inl (6, ll), .inl (6, o6)] _ 4 (fun b => [(0, .ref (b 0)), (1, .ref (b 1)), (2, .ref (b 2)), (3, .long a3), (5, .int a5), (6, .int a6), (7, .int a7)]) (fun b => [.ref (b 3)])
  refine q_astore (fun b => b 3) (fun b => [(8, .ref (b 3)), (0, .ref (b 0)), (1, .ref (b 1)), (2, .ref (b 2)), (3, .long a3), (5, .int a5), (6, .int a6), (7, .int a7)]) dL_outcome_4 rfl (show 8 < 13 by decide) (fun _ => rfl) ?_
  refine q_iconst dL_outcome_6 rfl ki_3 ?_
  refine q_newL 1 4 3 [.inl (24, yy), .inl (36, gg), .inl (6, ll), .inl (6, o6), .inr (3, zL)] aw_J (by decide) (by decide) (by decide) (by decide) (by decide) rfl (fun _ _ => rfl) (fun _ _ => rfl) (by decide) rfl dL_outcome_7 rfl h (fun h => ?_)
  refine q_astore (fun b => b 4) (fun b => [(9, .ref (b 4)), (8, .ref (b 3)), (0, .ref (b 0)), (1, .ref (b 1)), (2, .ref (b 2)), (3, .long a3), (5, .int a5), (6, .int a6), (7, .int a7)]) dL_outcome_9 rfl (show 9 < 13 by decide) (fun _ => rfl) ?_
  refine q_aload 0 (fun b => b 4) dL_outcome_11 rfl (fun _ => rfl) ?_
  refine q_iconst dL_outcome_13 rfl ki_0 ?_
  refine q_lload_n 5 dL_outcome_14 rfl rfl (fun _ => rfl) ?_
  refine q_last 4 3 zL (fun f9 => [.inl (24, yy), .inl (36, gg), .inl (6, ll), .inl (6, o6), .inr (3, f9)]) rfl (fun _ => rfl) dL_outcome_15 rfl h (fun f9 h => ?_)
  refine q_aload_n 2 (fun b => b 0) dL_outcome_16 rfl rfl (fun _ => rfl) ?_
  refine q_aload_n 3 (fun b => b 1) dL_outcome_17 rfl rfl (fun _ => rfl) ?_
  refine q_aload 1 (fun b => b 3) dL_outcome_18 rfl (fun _ => rfl) ?_
  refine q_aload 0 (fun b => b 4) dL_outcome_20 rfl (fun _ => rfl) ?_
  refine q_iload 6 dL_outcome_22 rfl (fun _ => rfl) ?_
  refine q_iconst dL_outcome_24 rfl ki_4 ?_
  refine q_idiv dL_outcome_25 rfl h (fun h => ?_)
  refine q_iload 6 dL_outcome_26 rfl (fun _ => rfl) ?_
  refine q_iconst dL_outcome_28 rfl ki_4 ?_
  refine q_irem dL_outcome_29 rfl h (fun h => ?_)
  refine q_pick [2, 0, 1, 3, 4] [.inl (6, ll), .inl (24, yy), .inl (36, gg), .inl (6, o6), .inr (3, f9)] [1, 2, 0] (fun b => [(9, .ref (b 4)), (8, .ref (b 3)), (0, .ref (b 1)), (1, .ref (b 2)), (2, .ref (b 0)), (3, .long a3), (5, .int a5), (6, .int a6), (7, .int a7)]) (fun b => [.int (a5 - a5 / (4 : Int32) * (4 : Int32)), .int (a5 / (4 : Int32)), .ref (b 4), .ref (b 3), .ref (b 2), .ref (b 1)]) rfl rfl (by decide) rfl (fun _ => rfl) (fun _ => rfl) ?_
  obtain ⟨o10, hc, h⟩ := bn_of h
  refine q_call [.inl (6, ll)] 1 (fun b => [.ref (b 1), .ref (b 2), .ref (b 3), .ref (b 4), .int (a5 / (4 : Int32)), .int (a5 - a5 / (4 : Int32) * (4 : Int32))]) (fun _ => []) (coL_push yy gg o6 f9 (a5 / (4 : Int32)) (a5 - a5 / (4 : Int32) * (4 : Int32)) o10 hc) rfl rfl rfl ms_RL_47 (by decide) (Or.inl rfl) (fun _ => rfl) (fun _ => rfl) (fun _ => rfl) (fun _ => Nat.le_of_ble_eq_true rfl) dL_outcome_30 rfl ?_
  show JQ Y mL_outcome (none) [1, 2, 0] [.inl (6, ll), .inl (24, yy), .inl (36, gg), .inl (6, o10.2.1), .inr (3, o10.2.2)] _ 33 (fun b => [(9, .ref (b 4)), (8, .ref (b 3)), (0, .ref (b 1)), (1, .ref (b 2)), (2, .ref (b 0)), (3, .long a3), (5, .int a5), (6, .int a6), (7, .int a7)]) (fun _ => [.int o10.1])
  refine q_istoreV (fun b => [(10, .int o10.1), (9, .ref (b 4)), (8, .ref (b 3)), (0, .ref (b 1)), (1, .ref (b 2)), (2, .ref (b 0)), (3, .long a3), (5, .int a5), (6, .int a6), (7, .int a7)]) dL_outcome_33 rfl (show 10 < 13 by decide) (fun _ => rfl) ?_
  refine q_iload 0 dL_outcome_35 rfl (fun _ => rfl) ?_
  refine q_if_ge dL_outcome_37 rfl rfl h (fun c h => ?_) (fun c h => ?_)
  · refine q_iload 0 dL_outcome_43 rfl (fun _ => rfl) ?_
    refine q_iload 8 dL_outcome_45 rfl (fun _ => rfl) ?_
    refine q_ishr dL_outcome_47 rfl ?_
    refine q_iconst dL_outcome_48 rfl ki_1 ?_
    refine q_iand dL_outcome_49 rfl ?_
    refine q_iconst dL_outcome_50 rfl ki_1 ?_
    refine q_icmp_ne dL_outcome_51 rfl rfl h (fun c h => ?_) (fun c h => ?_)
    · refine q_iconst dL_outcome_58 rfl ki_0 ?_
      refine q_sub [8, 9, 0] (fun _ => [(6, .int a6), (7, .int a7), (10, .int o10.1)]) (fun _ => rfl) ?_
      refine q_pick [1, 2, 0] [.inl (24, yy), .inl (36, gg), .inl (6, ll)] [0, 1, 2] (fun _ => [(6, .int a6), (7, .int a7), (10, .int o10.1)]) (fun _ => [.int (0 : Int32)]) rfl rfl (by decide) rfl (fun _ => rfl) (fun _ => rfl) ?_
      exact jL_outcome_59 yy gg ll hE _ a6 a7 o10.1 (0 : Int32) h
    · refine q_iconst dL_outcome_54 rfl ki_1 ?_
      refine q_goto dL_outcome_55 rfl ?_
      refine q_sub [8, 9, 0] (fun _ => [(6, .int a6), (7, .int a7), (10, .int o10.1)]) (fun _ => rfl) ?_
      refine q_pick [1, 2, 0] [.inl (24, yy), .inl (36, gg), .inl (6, ll)] [0, 1, 2] (fun _ => [(6, .int a6), (7, .int a7), (10, .int o10.1)]) (fun _ => [.int (1 : Int32)]) rfl rfl (by decide) rfl (fun _ => rfl) (fun _ => rfl) ?_
      exact jL_outcome_59 yy gg ll hE _ a6 a7 o10.1 (1 : Int32) h
  · refine q_bipush dL_outcome_40 rfl kb_m2 ?_
    refine q_sub [0, 3, 4, 5, 6, 7, 8, 9] (fun b => [(10, .int o10.1), (0, .ref (b 1)), (1, .ref (b 2)), (2, .ref (b 0)), (3, .long a3), (5, .int a5), (6, .int a6), (7, .int a7)]) (fun _ => rfl) ?_
    refine q_pick [1, 2, 0] [.inl (24, yy), .inl (36, gg), .inl (6, ll)] [0, 1, 2] (fun b => [(10, .int o10.1), (0, .ref (b 0)), (1, .ref (b 1)), (2, .ref (b 2)), (3, .long a3), (5, .int a5), (6, .int a6), (7, .int a7)]) (fun _ => [.int (-2 : Int32)]) rfl rfl (by decide) rfl (fun _ => rfl) (fun _ => rfl) ?_
    cases h
    exact hE _ _ _ dL_outcome_42
theorem coL_outcome {L : Nat} {xs : Nat → Int32} (yy : Nat → Int32) (gg : Nat → Int32) (ll : Nat → Int32) (a3 : Int64) (a5 : Int32) (a6 : Int32) (a7 : Int32) (o : Int32) (h : FL_outcome yy gg ll 0 a3 a5 a6 a7 = some o) : ConQ .ireturn 3 2 yL_outcome cL_outcome 13 (some .int) L xs (fun b ad b0 => [.ref (b 0), .ref (b 1), .ref (b 2), .long a3, .int a5, .int a6, .int a7]) [.inl (24, yy), .inl (36, gg), .inl (6, ll)] none (fun _ => .int o) [.inl (24, yy), .inl (36, gg), .inl (6, ll)] none :=
  conQ_of (by decide +kernel) rfl (fun _ _ _ => Nat.le_of_ble_eq_true rfl) (Or.inl ⟨rfl, Or.inl ⟨rfl, fun _ => ⟨_, rfl⟩⟩⟩) (fun Y hL hx hE => by
    subst hL; subst hx
    exact eL_outcome yy gg ll hE 0 a3 a5 a6 a7 h)

noncomputable def BL_law_1116 (L : Nat) (xs : Nat → Int32) (rl1101 : Mem → Nat → (Nat → Int32) → (Nat → Int32) → (Nat → Int32) → (Nat → Int64) → Int32 → Int64 → Int32 → Option (Int32)) (rl1116 : Mem → Nat → (Nat → Int32) → (Nat → Int32) → (Nat → Int32) → (Nat → Int64) → Int32 → Int64 → Int32 → Int32 → Int32 → Int32 → Option (Int32)) (σ : Mem) (n : Nat) (A0 : Nat → Int32) (A1 : Nat → Int32) (A2 : Nat → Int32) (A3 : Nat → Int64) (x4 : Int32) (x9 : Int64) (x13 : Int32) (x14 : Int32) (x15 : Int32) (x16 : Int32) : Option (Int32) :=
  if x13 = (1 : Int32) then
  (FL_law_1134 L xs rl1101 rl1116 σ n A0 A1 A2 A3 x4 x9 x13 x14 x15 x16 x4 x16)
  else
  (FL_law_1134 L xs rl1101 rl1116 σ n A0 A1 A2 A3 x4 x9 x13 x14 x15 x16 (x4 * x4) x16)
set_option maxHeartbeats 4000000 in
set_option maxRecDepth 100000 in
theorem jL_law_1116 {Y : QX} {out : Int32} (hE : ∀ σ2 : Mem, EndQ Y mL_law .ireturn [] (some σ2) [] (fun _ => [.int out])) (rl1101 : Mem → Nat → (Nat → Int32) → (Nat → Int32) → (Nat → Int32) → (Nat → Int64) → Int32 → Int64 → Int32 → Option (Int32)) (hr1101 : ∀ (σ : Mem) (n : Nat) (A0 : Nat → Int32) (A1 : Nat → Int32) (A2 : Nat → Int32) (A3 : Nat → Int64) (x4 : Int32) (x9 : Int64) (x13 : Int32), rl1101 σ n A0 A1 A2 A3 x4 x9 x13 = some out → JQ Y mL_law (some σ) [] [.inl (24, A0), .inl (36, A1), .inl (6, A2), .inr (3, A3)] n 1101 (fun b => [(0, .ref (qb Y)), (1, .ref (xad (qX Y) 0)), (2, .ref (b 0)), (3, .ref (b 1)), (4, .int x4), (5, .ref (b 2)), (6, .ref (b 3)), (9, .long x9), (13, .int x13)]) (fun _ => [])) (rl1116 : Mem → Nat → (Nat → Int32) → (Nat → Int32) → (Nat → Int32) → (Nat → Int64) → Int32 → Int64 → Int32 → Int32 → Int32 → Int32 → Option (Int32)) (hr1116 : ∀ (σ : Mem) (n : Nat) (A0 : Nat → Int32) (A1 : Nat → Int32) (A2 : Nat → Int32) (A3 : Nat → Int64) (x4 : Int32) (x9 : Int64) (x13 : Int32) (x14 : Int32) (x15 : Int32) (x16 : Int32), rl1116 σ n A0 A1 A2 A3 x4 x9 x13 x14 x15 x16 = some out → JQ Y mL_law (some σ) [] [.inl (24, A0), .inl (36, A1), .inl (6, A2), .inr (3, A3)] n 1116 (fun b => [(0, .ref (qb Y)), (1, .ref (xad (qX Y) 0)), (2, .ref (b 0)), (3, .ref (b 1)), (4, .int x4), (5, .ref (b 2)), (6, .ref (b 3)), (9, .long x9), (13, .int x13), (14, .int x14), (15, .int x15), (16, .int x16)]) (fun _ => [])) (σ : Mem) (n : Nat) (A0 : Nat → Int32) (A1 : Nat → Int32) (A2 : Nat → Int32) (A3 : Nat → Int64) (x4 : Int32) (x9 : Int64) (x13 : Int32) (x14 : Int32) (x15 : Int32) (x16 : Int32) (h : BL_law_1116 (qL Y) (qs Y) rl1101 rl1116 σ n A0 A1 A2 A3 x4 x9 x13 x14 x15 x16 = some out) : JQ Y mL_law (some σ) [] [.inl (24, A0), .inl (36, A1), .inl (6, A2), .inr (3, A3)] n 1116 (fun b => [(0, .ref (qb Y)), (1, .ref (xad (qX Y) 0)), (2, .ref (b 0)), (3, .ref (b 1)), (4, .int x4), (5, .ref (b 2)), (6, .ref (b 3)), (9, .long x9), (13, .int x13), (14, .int x14), (15, .int x15), (16, .int x16)]) (fun _ => []) := by
  refine q_iload 11 dL_law_1116 rfl (fun _ => rfl) ?_
  refine q_iload 8 dL_law_1118 rfl (fun _ => rfl) ?_
  refine q_iconst dL_law_1120 rfl ki_1 ?_
  refine q_icmp_ne dL_law_1121 rfl rfl h (fun c h => ?_) (fun c h => ?_)
  · refine q_iload 4 dL_law_1129 rfl (fun _ => rfl) ?_
    refine q_iload 4 dL_law_1131 rfl (fun _ => rfl) ?_
    refine q_imul dL_law_1133 rfl ?_
    exact jL_law_1134 hE rl1101 hr1101 rl1116 hr1116 σ _ A0 A1 A2 A3 x4 x9 x13 x14 x15 x16 (x4 * x4) x16 h
  · refine q_iload 4 dL_law_1124 rfl (fun _ => rfl) ?_
    refine q_goto dL_law_1126 rfl ?_
    exact jL_law_1134 hE rl1101 hr1101 rl1116 hr1116 σ _ A0 A1 A2 A3 x4 x9 x13 x14 x15 x16 x4 x16 h
noncomputable def FL_law_1116 (L : Nat) (xs : Nat → Int32) (rl1101 : Mem → Nat → (Nat → Int32) → (Nat → Int32) → (Nat → Int32) → (Nat → Int64) → Int32 → Int64 → Int32 → Option (Int32)) (fu : Nat) : Mem → Nat → (Nat → Int32) → (Nat → Int32) → (Nat → Int32) → (Nat → Int64) → Int32 → Int64 → Int32 → Int32 → Int32 → Int32 → Option (Int32) :=
  Nat.rec (fun _ _ _ _ _ _ _ _ _ _ _ _ => none) (fun _ ih => BL_law_1116 L xs rl1101 ih) fu
theorem lL_law_1116 {Y : QX} {out : Int32} (hE : ∀ σ2 : Mem, EndQ Y mL_law .ireturn [] (some σ2) [] (fun _ => [.int out])) (rl1101 : Mem → Nat → (Nat → Int32) → (Nat → Int32) → (Nat → Int32) → (Nat → Int64) → Int32 → Int64 → Int32 → Option (Int32)) (hr1101 : ∀ (σ : Mem) (n : Nat) (A0 : Nat → Int32) (A1 : Nat → Int32) (A2 : Nat → Int32) (A3 : Nat → Int64) (x4 : Int32) (x9 : Int64) (x13 : Int32), rl1101 σ n A0 A1 A2 A3 x4 x9 x13 = some out → JQ Y mL_law (some σ) [] [.inl (24, A0), .inl (36, A1), .inl (6, A2), .inr (3, A3)] n 1101 (fun b => [(0, .ref (qb Y)), (1, .ref (xad (qX Y) 0)), (2, .ref (b 0)), (3, .ref (b 1)), (4, .int x4), (5, .ref (b 2)), (6, .ref (b 3)), (9, .long x9), (13, .int x13)]) (fun _ => [])) : ∀ (fu : Nat) (σ : Mem) (n : Nat) (A0 : Nat → Int32) (A1 : Nat → Int32) (A2 : Nat → Int32) (A3 : Nat → Int64) (x4 : Int32) (x9 : Int64) (x13 : Int32) (x14 : Int32) (x15 : Int32) (x16 : Int32), FL_law_1116 (qL Y) (qs Y) rl1101 fu σ n A0 A1 A2 A3 x4 x9 x13 x14 x15 x16 = some out → JQ Y mL_law (some σ) [] [.inl (24, A0), .inl (36, A1), .inl (6, A2), .inr (3, A3)] n 1116 (fun b => [(0, .ref (qb Y)), (1, .ref (xad (qX Y) 0)), (2, .ref (b 0)), (3, .ref (b 1)), (4, .int x4), (5, .ref (b 2)), (6, .ref (b 3)), (9, .long x9), (13, .int x13), (14, .int x14), (15, .int x15), (16, .int x16)]) (fun _ => []) := by
  intro fu
  induction fu with
  | zero => intro σ n A0 A1 A2 A3 x4 x9 x13 x14 x15 x16 h; exact nn h
  | succ fu ih => intro σ n A0 A1 A2 A3 x4 x9 x13 x14 x15 x16 h; exact jL_law_1116 hE rl1101 hr1101 (FL_law_1116 (qL Y) (qs Y) rl1101 fu) ih σ n A0 A1 A2 A3 x4 x9 x13 x14 x15 x16 h
noncomputable def BL_law_1101 (L : Nat) (xs : Nat → Int32) (rl1101 : Mem → Nat → (Nat → Int32) → (Nat → Int32) → (Nat → Int32) → (Nat → Int64) → Int32 → Int64 → Int32 → Option (Int32)) (σ : Mem) (n : Nat) (A0 : Nat → Int32) (A1 : Nat → Int32) (A2 : Nat → Int32) (A3 : Nat → Int64) (x4 : Int32) (x9 : Int64) (x13 : Int32) : Option (Int32) :=
  if (3 : Int32) ≤ x13 then
  (FL_law_1488 L xs FU σ n A0 A1 A2 A3 x4 (0 : Int32))
  else
  (FL_law_1116 L xs rl1101 FU σ n A0 A1 A2 A3 x4 x9 x13 (0 : Int32) (-1 : Int32) (0 : Int32))
set_option maxHeartbeats 4000000 in
set_option maxRecDepth 100000 in
theorem jL_law_1101 {Y : QX} {out : Int32} (hE : ∀ σ2 : Mem, EndQ Y mL_law .ireturn [] (some σ2) [] (fun _ => [.int out])) (rl1101 : Mem → Nat → (Nat → Int32) → (Nat → Int32) → (Nat → Int32) → (Nat → Int64) → Int32 → Int64 → Int32 → Option (Int32)) (hr1101 : ∀ (σ : Mem) (n : Nat) (A0 : Nat → Int32) (A1 : Nat → Int32) (A2 : Nat → Int32) (A3 : Nat → Int64) (x4 : Int32) (x9 : Int64) (x13 : Int32), rl1101 σ n A0 A1 A2 A3 x4 x9 x13 = some out → JQ Y mL_law (some σ) [] [.inl (24, A0), .inl (36, A1), .inl (6, A2), .inr (3, A3)] n 1101 (fun b => [(0, .ref (qb Y)), (1, .ref (xad (qX Y) 0)), (2, .ref (b 0)), (3, .ref (b 1)), (4, .int x4), (5, .ref (b 2)), (6, .ref (b 3)), (9, .long x9), (13, .int x13)]) (fun _ => [])) (σ : Mem) (n : Nat) (A0 : Nat → Int32) (A1 : Nat → Int32) (A2 : Nat → Int32) (A3 : Nat → Int64) (x4 : Int32) (x9 : Int64) (x13 : Int32) (h : BL_law_1101 (qL Y) (qs Y) rl1101 σ n A0 A1 A2 A3 x4 x9 x13 = some out) : JQ Y mL_law (some σ) [] [.inl (24, A0), .inl (36, A1), .inl (6, A2), .inr (3, A3)] n 1101 (fun b => [(0, .ref (qb Y)), (1, .ref (xad (qX Y) 0)), (2, .ref (b 0)), (3, .ref (b 1)), (4, .int x4), (5, .ref (b 2)), (6, .ref (b 3)), (9, .long x9), (13, .int x13)]) (fun _ => []) := by
  refine q_iload 8 dL_law_1101 rfl (fun _ => rfl) ?_
  refine q_iconst dL_law_1103 rfl ki_3 ?_
  refine q_icmp_ge dL_law_1104 rfl rfl h (fun c h => ?_) (fun c h => ?_)
  · refine q_iconst dL_law_1485 rfl ki_0 ?_
    refine q_istoreV (fun b => [(13, .int (0 : Int32)), (0, .ref (qb Y)), (1, .ref (xad (qX Y) 0)), (2, .ref (b 0)), (3, .ref (b 1)), (4, .int x4), (5, .ref (b 2)), (6, .ref (b 3)), (9, .long x9)]) dL_law_1486 rfl (show 13 < 27 by decide) (fun _ => rfl) ?_
    refine q_sub [1, 2, 3, 4, 5, 6, 7, 0] (fun b => [(0, .ref (qb Y)), (1, .ref (xad (qX Y) 0)), (2, .ref (b 0)), (3, .ref (b 1)), (4, .int x4), (5, .ref (b 2)), (6, .ref (b 3)), (13, .int (0 : Int32))]) (fun _ => rfl) ?_
    exact lL_law_1488 hE FU σ _ A0 A1 A2 A3 x4 (0 : Int32) h
  · refine q_iconst dL_law_1107 rfl ki_0 ?_
    refine q_istoreV (fun b => [(14, .int (0 : Int32)), (0, .ref (qb Y)), (1, .ref (xad (qX Y) 0)), (2, .ref (b 0)), (3, .ref (b 1)), (4, .int x4), (5, .ref (b 2)), (6, .ref (b 3)), (9, .long x9), (13, .int x13)]) dL_law_1108 rfl (show 14 < 27 by decide) (fun _ => rfl) ?_
    refine q_iconst dL_law_1110 rfl ki_m1 ?_
    refine q_istoreV (fun b => [(15, .int (-1 : Int32)), (14, .int (0 : Int32)), (0, .ref (qb Y)), (1, .ref (xad (qX Y) 0)), (2, .ref (b 0)), (3, .ref (b 1)), (4, .int x4), (5, .ref (b 2)), (6, .ref (b 3)), (9, .long x9), (13, .int x13)]) dL_law_1111 rfl (show 15 < 27 by decide) (fun _ => rfl) ?_
    refine q_iconst dL_law_1113 rfl ki_0 ?_
    refine q_istoreV (fun b => [(16, .int (0 : Int32)), (15, .int (-1 : Int32)), (14, .int (0 : Int32)), (0, .ref (qb Y)), (1, .ref (xad (qX Y) 0)), (2, .ref (b 0)), (3, .ref (b 1)), (4, .int x4), (5, .ref (b 2)), (6, .ref (b 3)), (9, .long x9), (13, .int x13)]) dL_law_1114 rfl (show 16 < 27 by decide) (fun _ => rfl) ?_
    refine q_sub [3, 4, 5, 6, 7, 8, 9, 10, 11, 2, 1, 0] (fun b => [(0, .ref (qb Y)), (1, .ref (xad (qX Y) 0)), (2, .ref (b 0)), (3, .ref (b 1)), (4, .int x4), (5, .ref (b 2)), (6, .ref (b 3)), (9, .long x9), (13, .int x13), (14, .int (0 : Int32)), (15, .int (-1 : Int32)), (16, .int (0 : Int32))]) (fun _ => rfl) ?_
    exact lL_law_1116 hE rl1101 hr1101 FU σ _ A0 A1 A2 A3 x4 x9 x13 (0 : Int32) (-1 : Int32) (0 : Int32) h
noncomputable def FL_law_1101 (L : Nat) (xs : Nat → Int32) (fu : Nat) : Mem → Nat → (Nat → Int32) → (Nat → Int32) → (Nat → Int32) → (Nat → Int64) → Int32 → Int64 → Int32 → Option (Int32) :=
  Nat.rec (fun _ _ _ _ _ _ _ _ _ => none) (fun _ ih => BL_law_1101 L xs ih) fu
theorem lL_law_1101 {Y : QX} {out : Int32} (hE : ∀ σ2 : Mem, EndQ Y mL_law .ireturn [] (some σ2) [] (fun _ => [.int out])) : ∀ (fu : Nat) (σ : Mem) (n : Nat) (A0 : Nat → Int32) (A1 : Nat → Int32) (A2 : Nat → Int32) (A3 : Nat → Int64) (x4 : Int32) (x9 : Int64) (x13 : Int32), FL_law_1101 (qL Y) (qs Y) fu σ n A0 A1 A2 A3 x4 x9 x13 = some out → JQ Y mL_law (some σ) [] [.inl (24, A0), .inl (36, A1), .inl (6, A2), .inr (3, A3)] n 1101 (fun b => [(0, .ref (qb Y)), (1, .ref (xad (qX Y) 0)), (2, .ref (b 0)), (3, .ref (b 1)), (4, .int x4), (5, .ref (b 2)), (6, .ref (b 3)), (9, .long x9), (13, .int x13)]) (fun _ => []) := by
  intro fu
  induction fu with
  | zero => intro σ n A0 A1 A2 A3 x4 x9 x13 h; exact nn h
  | succ fu ih => intro σ n A0 A1 A2 A3 x4 x9 x13 h; exact jL_law_1101 hE (FL_law_1101 (qL Y) (qs Y) fu) ih σ n A0 A1 A2 A3 x4 x9 x13 h
noncomputable def FL_law_1006 (L : Nat) (xs : Nat → Int32) (σ : Mem) (n : Nat) (A0 : Nat → Int32) (A1 : Nat → Int32) (A2 : Nat → Int32) (A3 : Nat → Int64) (x4 : Int32) (x7 : Int32) (s0 : Int32) : Option (Int32) :=
  bn (FL_copied A2 0) fun o269 =>
  al 600000 n 1 fun n270 =>
  al 600000 n270 1 fun n271 =>
  rd (0 : Int32) 3 fun j272 =>
  stB (0 : Int32) 3 zL (A3 j272) fun f273 =>
  if x4 ≤ 0 then
  (FL_law_1101 L xs FU σ n271 A0 A1 A2 A3 x4 (0 : Int64) (1 : Int32))
  else
  (dzI (4 : Int32) <|
  dzI (4 : Int32) <|
  bn (FL_push A0 A1 o269 f273 (x7 / (4 : Int32)) (x7 - x7 / (4 : Int32) * (4 : Int32))) fun o274 =>
  if o274.1 < 0 then
  (FL_law_1101 L xs FU σ n271 A0 A1 A2 A3 x4 (0 : Int64) (1 : Int32))
  else
  (rd (1 : Int32) 3 fun j275 =>
  nm ((0 : Int64) ||| (o274.2.2 j275)) fun x_276 =>
  dzI (4 : Int32) <|
  dzI (4 : Int32) <|
  bn (FL_push A0 A1 o274.2.1 o274.2.2 (s0 / (4 : Int32)) (s0 - s0 / (4 : Int32) * (4 : Int32))) fun o277 =>
  if o277.1 < 0 then
  (nm (x_276 ||| (0 : Int64)) fun x_278 =>
  FL_law_1101 L xs FU σ n271 A0 A1 A2 A3 x4 x_278 (1 : Int32))
  else
  (rd (1 : Int32) 3 fun j279 =>
  nm (x_276 ||| (o277.2.2 j279)) fun x_280 =>
  FL_law_1101 L xs FU σ n271 A0 A1 A2 A3 x4 x_280 (1 : Int32))))
set_option maxHeartbeats 4000000 in
set_option maxRecDepth 100000 in
theorem jL_law_1006 {Y : QX} {out : Int32} (hE : ∀ σ2 : Mem, EndQ Y mL_law .ireturn [] (some σ2) [] (fun _ => [.int out])) (σ : Mem) (n : Nat) (A0 : Nat → Int32) (A1 : Nat → Int32) (A2 : Nat → Int32) (A3 : Nat → Int64) (x4 : Int32) (x7 : Int32) (s0 : Int32) (h : FL_law_1006 (qL Y) (qs Y) σ n A0 A1 A2 A3 x4 x7 s0 = some out) : JQ Y mL_law (some σ) [] [.inl (24, A0), .inl (36, A1), .inl (6, A2), .inr (3, A3)] n 1006 (fun b => [(0, .ref (qb Y)), (1, .ref (xad (qX Y) 0)), (2, .ref (b 0)), (3, .ref (b 1)), (4, .int x4), (5, .ref (b 2)), (6, .ref (b 3)), (7, .int x7)]) (fun _ => [.int s0]) := by
  refine q_istoreV (fun b => [(8, .int s0), (0, .ref (qb Y)), (1, .ref (xad (qX Y) 0)), (2, .ref (b 0)), (3, .ref (b 1)), (4, .int x4), (5, .ref (b 2)), (6, .ref (b 3)), (7, .int x7)]) dL_law_1006 rfl (show 8 < 27 by decide) (fun _ => rfl) ?_
  refine q_lconst dL_law_1008 rfl kl_0 ?_
  refine q_lstoreV (fun b => [(9, .long (0 : Int64)), (8, .int s0), (0, .ref (qb Y)), (1, .ref (xad (qX Y) 0)), (2, .ref (b 0)), (3, .ref (b 1)), (4, .int x4), (5, .ref (b 2)), (6, .ref (b 3)), (7, .int x7)]) dL_law_1009 rfl (show 9 + 1 < 27 by decide) (fun _ => rfl) ?_
  refine q_aload 7 (fun b => b 2) dL_law_1011 rfl (fun _ => rfl) ?_
  refine q_pick [0, 1, 3, 2] [.inl (24, A0), .inl (36, A1), .inr (3, A3), .inl (6, A2)] [] (fun b => [(9, .long (0 : Int64)), (8, .int s0), (0, .ref (qb Y)), (1, .ref (xad (qX Y) 0)), (2, .ref (b 0)), (3, .ref (b 1)), (4, .int x4), (5, .ref (b 3)), (6, .ref (b 2)), (7, .int x7)]) (fun b => [.ref (b 3)]) rfl rfl (by decide) rfl (fun _ => rfl) (fun _ => rfl) ?_
  obtain ⟨o269, hc, h⟩ := bn_of h
  refine q_callA [.inl (24, A0), .inl (36, A1), .inr (3, A3)] 3 1 4 (fun b => [.ref (b 3)]) (fun _ => []) (coL_copied A2 o269 hc) rfl rfl rfl rfl ms_RL_44 (by decide) h (fun _ => rfl) (fun _ => rfl) (fun _ => rfl) (fun _ => Nat.le_of_ble_eq_true rfl) (fun _ _ => rfl) (fun _ _ => rfl) (by decide) dL_law_1013 rfl (fun h => ?_)
  show JQ Y mL_law (some σ) [] [.inl (24, A0), .inl (36, A1), .inr (3, A3), .inl (6, A2), .inl (6, o269)] _ 1016 (fun b => [(9, .long (0 : Int64)), (8, .int s0), (0, .ref (qb Y)), (1, .ref (xad (qX Y) 0)), (2, .ref (b 0)), (3, .ref (b 1)), (4, .int x4), (5, .ref (b 3)), (6, .ref (b 2)), (7, .int x7)]) (fun b => [.ref (b 4)])
  refine q_astore (fun b => b 4) (fun b => [(11, .ref (b 4)), (9, .long (0 : Int64)), (8, .int s0), (0, .ref (qb Y)), (1, .ref (xad (qX Y) 0)), (2, .ref (b 0)), (3, .ref (b 1)), (4, .int x4), (5, .ref (b 3)), (6, .ref (b 2)), (7, .int x7)]) dL_law_1016 rfl (show 11 < 27 by decide) (fun _ => rfl) ?_
  refine q_iconst dL_law_1018 rfl ki_3 ?_
  refine q_newL 1 5 3 [.inl (24, A0), .inl (36, A1), .inr (3, A3), .inl (6, A2), .inl (6, o269), .inr (3, zL)] aw_J (by decide) (by decide) (by decide) (by decide) (by decide) rfl (fun _ _ => rfl) (fun _ _ => rfl) (by decide) rfl dL_law_1019 rfl h (fun h => ?_)
  refine q_astore (fun b => b 5) (fun b => [(12, .ref (b 5)), (11, .ref (b 4)), (9, .long (0 : Int64)), (8, .int s0), (0, .ref (qb Y)), (1, .ref (xad (qX Y) 0)), (2, .ref (b 0)), (3, .ref (b 1)), (4, .int x4), (5, .ref (b 3)), (6, .ref (b 2)), (7, .int x7)]) dL_law_1021 rfl (show 12 < 27 by decide) (fun _ => rfl) ?_
  refine q_aload 0 (fun b => b 5) dL_law_1023 rfl (fun _ => rfl) ?_
  refine q_iconst dL_law_1025 rfl ki_0 ?_
  refine q_aload 10 (fun b => b 2) dL_law_1026 rfl (fun _ => rfl) ?_
  refine q_iconst dL_law_1028 rfl ki_0 ?_
  refine q_lald 2 3 A3 rfl dL_law_1029 rfl h (fun j272 h => ?_)
  refine q_last 5 3 zL (fun f273 => [.inl (24, A0), .inl (36, A1), .inr (3, A3), .inl (6, A2), .inl (6, o269), .inr (3, f273)]) rfl (fun _ => rfl) dL_law_1030 rfl h (fun f273 h => ?_)
  refine q_iload 8 dL_law_1031 rfl (fun _ => rfl) ?_
  refine q_if_le dL_law_1033 rfl rfl h (fun c h => ?_) (fun c h => ?_)
  · refine q_iconst dL_law_1098 rfl ki_1 ?_
    refine q_istoreV (fun b => [(13, .int (1 : Int32)), (12, .ref (b 5)), (11, .ref (b 4)), (9, .long (0 : Int64)), (8, .int s0), (0, .ref (qb Y)), (1, .ref (xad (qX Y) 0)), (2, .ref (b 0)), (3, .ref (b 1)), (4, .int x4), (5, .ref (b 3)), (6, .ref (b 2)), (7, .int x7)]) dL_law_1099 rfl (show 13 < 27 by decide) (fun _ => rfl) ?_
    refine q_sub [5, 6, 7, 8, 9, 10, 11, 3, 0] (fun b => [(0, .ref (qb Y)), (1, .ref (xad (qX Y) 0)), (2, .ref (b 0)), (3, .ref (b 1)), (4, .int x4), (5, .ref (b 3)), (6, .ref (b 2)), (9, .long (0 : Int64)), (13, .int (1 : Int32))]) (fun _ => rfl) ?_
    refine q_pick [0, 1, 3, 2] [.inl (24, A0), .inl (36, A1), .inl (6, A2), .inr (3, A3)] [] (fun b => [(0, .ref (qb Y)), (1, .ref (xad (qX Y) 0)), (2, .ref (b 0)), (3, .ref (b 1)), (4, .int x4), (5, .ref (b 2)), (6, .ref (b 3)), (9, .long (0 : Int64)), (13, .int (1 : Int32))]) (fun _ => []) rfl rfl (by decide) rfl (fun _ => rfl) (fun _ => rfl) ?_
    exact lL_law_1101 hE FU σ _ A0 A1 A2 A3 x4 (0 : Int64) (1 : Int32) h
  · refine q_aload_n 6 (fun b => b 0) dL_law_1036 rfl rfl (fun _ => rfl) ?_
    refine q_aload_n 7 (fun b => b 1) dL_law_1037 rfl rfl (fun _ => rfl) ?_
    refine q_aload 1 (fun b => b 4) dL_law_1038 rfl (fun _ => rfl) ?_
    refine q_aload 0 (fun b => b 5) dL_law_1040 rfl (fun _ => rfl) ?_
    refine q_iload 11 dL_law_1042 rfl (fun _ => rfl) ?_
    refine q_iconst dL_law_1044 rfl ki_4 ?_
    refine q_idiv dL_law_1045 rfl h (fun h => ?_)
    refine q_iload 11 dL_law_1046 rfl (fun _ => rfl) ?_
    refine q_iconst dL_law_1048 rfl ki_4 ?_
    refine q_irem dL_law_1049 rfl h (fun h => ?_)
    refine q_pick [2, 3, 0, 1, 4, 5] [.inr (3, A3), .inl (6, A2), .inl (24, A0), .inl (36, A1), .inl (6, o269), .inr (3, f273)] [] (fun b => [(12, .ref (b 5)), (11, .ref (b 4)), (9, .long (0 : Int64)), (8, .int s0), (0, .ref (qb Y)), (1, .ref (xad (qX Y) 0)), (2, .ref (b 2)), (3, .ref (b 3)), (4, .int x4), (5, .ref (b 1)), (6, .ref (b 0)), (7, .int x7)]) (fun b => [.int (x7 - x7 / (4 : Int32) * (4 : Int32)), .int (x7 / (4 : Int32)), .ref (b 5), .ref (b 4), .ref (b 3), .ref (b 2)]) rfl rfl (by decide) rfl (fun _ => rfl) (fun _ => rfl) ?_
    obtain ⟨o274, hc, h⟩ := bn_of h
    refine q_call [.inr (3, A3), .inl (6, A2)] 2 (fun b => [.ref (b 2), .ref (b 3), .ref (b 4), .ref (b 5), .int (x7 / (4 : Int32)), .int (x7 - x7 / (4 : Int32) * (4 : Int32))]) (fun _ => []) (coL_push A0 A1 o269 f273 (x7 / (4 : Int32)) (x7 - x7 / (4 : Int32) * (4 : Int32)) o274 hc) rfl rfl rfl ms_RL_47 (by decide) (Or.inl rfl) (fun _ => rfl) (fun _ => rfl) (fun _ => rfl) (fun _ => Nat.le_of_ble_eq_true rfl) dL_law_1050 rfl ?_
    show JQ Y mL_law (some σ) [] [.inr (3, A3), .inl (6, A2), .inl (24, A0), .inl (36, A1), .inl (6, o274.2.1), .inr (3, o274.2.2)] _ 1053 (fun b => [(12, .ref (b 5)), (11, .ref (b 4)), (9, .long (0 : Int64)), (8, .int s0), (0, .ref (qb Y)), (1, .ref (xad (qX Y) 0)), (2, .ref (b 2)), (3, .ref (b 3)), (4, .int x4), (5, .ref (b 1)), (6, .ref (b 0)), (7, .int x7)]) (fun _ => [.int o274.1])
    refine q_if_lt dL_law_1053 rfl rfl h (fun c h => ?_) (fun c h => ?_)
    · refine q_iconst dL_law_1098 rfl ki_1 ?_
      refine q_istoreV (fun b => [(13, .int (1 : Int32)), (12, .ref (b 5)), (11, .ref (b 4)), (9, .long (0 : Int64)), (8, .int s0), (0, .ref (qb Y)), (1, .ref (xad (qX Y) 0)), (2, .ref (b 2)), (3, .ref (b 3)), (4, .int x4), (5, .ref (b 1)), (6, .ref (b 0)), (7, .int x7)]) dL_law_1099 rfl (show 13 < 27 by decide) (fun _ => rfl) ?_
      refine q_sub [5, 6, 7, 8, 9, 10, 11, 3, 0] (fun b => [(0, .ref (qb Y)), (1, .ref (xad (qX Y) 0)), (2, .ref (b 2)), (3, .ref (b 3)), (4, .int x4), (5, .ref (b 1)), (6, .ref (b 0)), (9, .long (0 : Int64)), (13, .int (1 : Int32))]) (fun _ => rfl) ?_
      refine q_pick [2, 3, 1, 0] [.inl (24, A0), .inl (36, A1), .inl (6, A2), .inr (3, A3)] [] (fun b => [(0, .ref (qb Y)), (1, .ref (xad (qX Y) 0)), (2, .ref (b 0)), (3, .ref (b 1)), (4, .int x4), (5, .ref (b 2)), (6, .ref (b 3)), (9, .long (0 : Int64)), (13, .int (1 : Int32))]) (fun _ => []) rfl rfl (by decide) rfl (fun _ => rfl) (fun _ => rfl) ?_
      exact lL_law_1101 hE FU σ _ A0 A1 A2 A3 x4 (0 : Int64) (1 : Int32) h
    · refine q_lload 2 dL_law_1056 rfl (fun _ => rfl) ?_
      refine q_aload 0 (fun b => b 5) dL_law_1058 rfl (fun _ => rfl) ?_
      refine q_iconst dL_law_1060 rfl ki_1 ?_
      refine q_lald 5 3 o274.2.2 rfl dL_law_1061 rfl h (fun j275 h => ?_)
      refine q_lor dL_law_1062 rfl ?_
      refine q_lstore (fun x_276 => (fun b => [(9, .long x_276), (12, .ref (b 5)), (11, .ref (b 4)), (8, .int s0), (0, .ref (qb Y)), (1, .ref (xad (qX Y) 0)), (2, .ref (b 2)), (3, .ref (b 3)), (4, .int x4), (5, .ref (b 1)), (6, .ref (b 0)), (7, .int x7)])) dL_law_1063 rfl (show 9 + 1 < 27 by decide) (fun _ _ => rfl) h (fun x_276 h => ?_)
      refine q_lload 0 dL_law_1065 rfl (fun _ => rfl) ?_
      refine q_aload_n 6 (fun b => b 2) dL_law_1067 rfl rfl (fun _ => rfl) ?_
      refine q_aload_n 7 (fun b => b 3) dL_law_1068 rfl rfl (fun _ => rfl) ?_
      refine q_aload 2 (fun b => b 4) dL_law_1069 rfl (fun _ => rfl) ?_
      refine q_aload 1 (fun b => b 5) dL_law_1071 rfl (fun _ => rfl) ?_
      refine q_iload 3 dL_law_1073 rfl (fun _ => rfl) ?_
      refine q_iconst dL_law_1075 rfl ki_4 ?_
      refine q_idiv dL_law_1076 rfl h (fun h => ?_)
      refine q_iload 3 dL_law_1077 rfl (fun _ => rfl) ?_
      refine q_iconst dL_law_1079 rfl ki_4 ?_
      refine q_irem dL_law_1080 rfl h (fun h => ?_)
      obtain ⟨o277, hc, h⟩ := bn_of h
      refine q_call [.inr (3, A3), .inl (6, A2)] 2 (fun b => [.ref (b 2), .ref (b 3), .ref (b 4), .ref (b 5), .int (s0 / (4 : Int32)), .int (s0 - s0 / (4 : Int32) * (4 : Int32))]) (fun _ => [.long x_276]) (coL_push A0 A1 o274.2.1 o274.2.2 (s0 / (4 : Int32)) (s0 - s0 / (4 : Int32) * (4 : Int32)) o277 hc) rfl rfl rfl ms_RL_47 (by decide) (Or.inl rfl) (fun _ => rfl) (fun _ => rfl) (fun _ => rfl) (fun _ => Nat.le_of_ble_eq_true rfl) dL_law_1081 rfl ?_
      show JQ Y mL_law (some σ) [] [.inr (3, A3), .inl (6, A2), .inl (24, A0), .inl (36, A1), .inl (6, o277.2.1), .inr (3, o277.2.2)] _ 1084 (fun b => [(9, .long x_276), (12, .ref (b 5)), (11, .ref (b 4)), (8, .int s0), (0, .ref (qb Y)), (1, .ref (xad (qX Y) 0)), (2, .ref (b 2)), (3, .ref (b 3)), (4, .int x4), (5, .ref (b 1)), (6, .ref (b 0)), (7, .int x7)]) (fun _ => [.int o277.1, .long x_276])
      refine q_if_lt dL_law_1084 rfl rfl h (fun c h => ?_) (fun c h => ?_)
      · refine q_lconst dL_law_1094 rfl kl_0 ?_
        refine q_lor dL_law_1095 rfl ?_
        refine q_lstore (fun x_278 => (fun b => [(9, .long x_278), (12, .ref (b 5)), (11, .ref (b 4)), (8, .int s0), (0, .ref (qb Y)), (1, .ref (xad (qX Y) 0)), (2, .ref (b 2)), (3, .ref (b 3)), (4, .int x4), (5, .ref (b 1)), (6, .ref (b 0)), (7, .int x7)])) dL_law_1096 rfl (show 9 + 1 < 27 by decide) (fun _ _ => rfl) h (fun x_278 h => ?_)
        refine q_iconst dL_law_1098 rfl ki_1 ?_
        refine q_istoreV (fun b => [(13, .int (1 : Int32)), (9, .long x_278), (12, .ref (b 5)), (11, .ref (b 4)), (8, .int s0), (0, .ref (qb Y)), (1, .ref (xad (qX Y) 0)), (2, .ref (b 2)), (3, .ref (b 3)), (4, .int x4), (5, .ref (b 1)), (6, .ref (b 0)), (7, .int x7)]) dL_law_1099 rfl (show 13 < 27 by decide) (fun _ => rfl) ?_
        refine q_sub [5, 6, 7, 8, 9, 10, 11, 1, 0] (fun b => [(0, .ref (qb Y)), (1, .ref (xad (qX Y) 0)), (2, .ref (b 2)), (3, .ref (b 3)), (4, .int x4), (5, .ref (b 1)), (6, .ref (b 0)), (9, .long x_278), (13, .int (1 : Int32))]) (fun _ => rfl) ?_
        refine q_pick [2, 3, 1, 0] [.inl (24, A0), .inl (36, A1), .inl (6, A2), .inr (3, A3)] [] (fun b => [(0, .ref (qb Y)), (1, .ref (xad (qX Y) 0)), (2, .ref (b 0)), (3, .ref (b 1)), (4, .int x4), (5, .ref (b 2)), (6, .ref (b 3)), (9, .long x_278), (13, .int (1 : Int32))]) (fun _ => []) rfl rfl (by decide) rfl (fun _ => rfl) (fun _ => rfl) ?_
        exact lL_law_1101 hE FU σ _ A0 A1 A2 A3 x4 x_278 (1 : Int32) h
      · refine q_aload 1 (fun b => b 5) dL_law_1087 rfl (fun _ => rfl) ?_
        refine q_iconst dL_law_1089 rfl ki_1 ?_
        refine q_lald 5 3 o277.2.2 rfl dL_law_1090 rfl h (fun j279 h => ?_)
        refine q_goto dL_law_1091 rfl ?_
        refine q_lor dL_law_1095 rfl ?_
        refine q_lstore (fun x_280 => (fun b => [(9, .long x_280), (12, .ref (b 5)), (11, .ref (b 4)), (8, .int s0), (0, .ref (qb Y)), (1, .ref (xad (qX Y) 0)), (2, .ref (b 2)), (3, .ref (b 3)), (4, .int x4), (5, .ref (b 1)), (6, .ref (b 0)), (7, .int x7)])) dL_law_1096 rfl (show 9 + 1 < 27 by decide) (fun _ _ => rfl) h (fun x_280 h => ?_)
        refine q_iconst dL_law_1098 rfl ki_1 ?_
        refine q_istoreV (fun b => [(13, .int (1 : Int32)), (9, .long x_280), (12, .ref (b 5)), (11, .ref (b 4)), (8, .int s0), (0, .ref (qb Y)), (1, .ref (xad (qX Y) 0)), (2, .ref (b 2)), (3, .ref (b 3)), (4, .int x4), (5, .ref (b 1)), (6, .ref (b 0)), (7, .int x7)]) dL_law_1099 rfl (show 13 < 27 by decide) (fun _ => rfl) ?_
        refine q_sub [5, 6, 7, 8, 9, 10, 11, 1, 0] (fun b => [(0, .ref (qb Y)), (1, .ref (xad (qX Y) 0)), (2, .ref (b 2)), (3, .ref (b 3)), (4, .int x4), (5, .ref (b 1)), (6, .ref (b 0)), (9, .long x_280), (13, .int (1 : Int32))]) (fun _ => rfl) ?_
        refine q_pick [2, 3, 1, 0] [.inl (24, A0), .inl (36, A1), .inl (6, A2), .inr (3, A3)] [] (fun b => [(0, .ref (qb Y)), (1, .ref (xad (qX Y) 0)), (2, .ref (b 0)), (3, .ref (b 1)), (4, .int x4), (5, .ref (b 2)), (6, .ref (b 3)), (9, .long x_280), (13, .int (1 : Int32))]) (fun _ => []) rfl rfl (by decide) rfl (fun _ => rfl) (fun _ => rfl) ?_
        exact lL_law_1101 hE FU σ _ A0 A1 A2 A3 x4 x_280 (1 : Int32) h
noncomputable def FL_law_982 (L : Nat) (xs : Nat → Int32) (σ : Mem) (n : Nat) (A0 : Nat → Int32) (A1 : Nat → Int32) (A2 : Nat → Int32) (A3 : Nat → Int64) (x4 : Int32) (s0 : Int32) : Option (Int32) :=
  if x4 ≤ 0 then
  (FL_law_1006 L xs σ n A0 A1 A2 A3 x4 s0 (0 : Int32))
  else
  (bn (FL_cell L xs (8 : Int32)) fun o281 =>
  bn (FL_low (o281 >>> ((5 : Int32) &&& 31)) x4) fun o282 =>
  FL_law_1006 L xs σ n A0 A1 A2 A3 x4 s0 o282)
set_option maxHeartbeats 4000000 in
set_option maxRecDepth 100000 in
theorem jL_law_982 {Y : QX} {out : Int32} (hE : ∀ σ2 : Mem, EndQ Y mL_law .ireturn [] (some σ2) [] (fun _ => [.int out])) (σ : Mem) (n : Nat) (A0 : Nat → Int32) (A1 : Nat → Int32) (A2 : Nat → Int32) (A3 : Nat → Int64) (x4 : Int32) (s0 : Int32) (h : FL_law_982 (qL Y) (qs Y) σ n A0 A1 A2 A3 x4 s0 = some out) : JQ Y mL_law (some σ) [] [.inl (24, A0), .inl (36, A1), .inl (6, A2), .inr (3, A3)] n 982 (fun b => [(0, .ref (qb Y)), (1, .ref (xad (qX Y) 0)), (2, .ref (b 0)), (3, .ref (b 1)), (4, .int x4), (5, .ref (b 2)), (6, .ref (b 3))]) (fun _ => [.int s0]) := by
  refine q_istoreV (fun b => [(7, .int s0), (0, .ref (qb Y)), (1, .ref (xad (qX Y) 0)), (2, .ref (b 0)), (3, .ref (b 1)), (4, .int x4), (5, .ref (b 2)), (6, .ref (b 3))]) dL_law_982 rfl (show 7 < 27 by decide) (fun _ => rfl) ?_
  refine q_iload 5 dL_law_984 rfl (fun _ => rfl) ?_
  refine q_if_le dL_law_986 rfl rfl h (fun c h => ?_) (fun c h => ?_)
  · refine q_iconst dL_law_1005 rfl ki_0 ?_
    refine q_sub [1, 2, 3, 4, 5, 6, 7, 0] (fun b => [(0, .ref (qb Y)), (1, .ref (xad (qX Y) 0)), (2, .ref (b 0)), (3, .ref (b 1)), (4, .int x4), (5, .ref (b 2)), (6, .ref (b 3)), (7, .int s0)]) (fun _ => rfl) ?_
    exact jL_law_1006 hE σ _ A0 A1 A2 A3 x4 s0 (0 : Int32) h
  · refine q_aload_n 1 (fun _ => qb Y) dL_law_989 rfl rfl (fun _ => rfl) ?_
    refine q_bipush dL_law_990 rfl kb_8 ?_
    obtain ⟨o281, hc, h⟩ := bn_of h
    refine q_call [.inl (24, A0), .inl (36, A1), .inl (6, A2), .inr (3, A3)] 4 (fun _ => [.ref (qb Y), .int (8 : Int32)]) (fun _ => []) (coL_cell (qL Y) (qs Y) (8 : Int32) o281 hc) rfl rfl rfl ms_RL_9 (by decide) (Or.inl rfl) (fun _ => rfl) (fun _ => rfl) (fun _ => rfl) (fun _ => Nat.le_of_ble_eq_true rfl) dL_law_992 rfl ?_
    show JQ Y mL_law (some σ) [] [.inl (24, A0), .inl (36, A1), .inl (6, A2), .inr (3, A3)] _ 995 (fun b => [(7, .int s0), (0, .ref (qb Y)), (1, .ref (xad (qX Y) 0)), (2, .ref (b 0)), (3, .ref (b 1)), (4, .int x4), (5, .ref (b 2)), (6, .ref (b 3))]) (fun _ => [.int o281])
    refine q_iconst dL_law_995 rfl ki_5 ?_
    refine q_ishr dL_law_996 rfl ?_
    refine q_iload 5 dL_law_997 rfl (fun _ => rfl) ?_
    obtain ⟨o282, hc, h⟩ := bn_of h
    refine q_call [.inl (24, A0), .inl (36, A1), .inl (6, A2), .inr (3, A3)] 4 (fun _ => [.int (o281 >>> ((5 : Int32) &&& 31)), .int x4]) (fun _ => []) (coL_low (o281 >>> ((5 : Int32) &&& 31)) x4 o282 hc) rfl rfl rfl ms_RL_15 (by decide) (Or.inl rfl) (fun _ => rfl) (fun _ => rfl) (fun _ => rfl) (fun _ => Nat.le_of_ble_eq_true rfl) dL_law_999 rfl ?_
    show JQ Y mL_law (some σ) [] [.inl (24, A0), .inl (36, A1), .inl (6, A2), .inr (3, A3)] _ 1002 (fun b => [(7, .int s0), (0, .ref (qb Y)), (1, .ref (xad (qX Y) 0)), (2, .ref (b 0)), (3, .ref (b 1)), (4, .int x4), (5, .ref (b 2)), (6, .ref (b 3))]) (fun _ => [.int o282])
    refine q_goto dL_law_1002 rfl ?_
    refine q_sub [1, 2, 3, 4, 5, 6, 7, 0] (fun b => [(0, .ref (qb Y)), (1, .ref (xad (qX Y) 0)), (2, .ref (b 0)), (3, .ref (b 1)), (4, .int x4), (5, .ref (b 2)), (6, .ref (b 3)), (7, .int s0)]) (fun _ => rfl) ?_
    exact jL_law_1006 hE σ _ A0 A1 A2 A3 x4 s0 o282 h
noncomputable def FL_law_904 (L : Nat) (xs : Nat → Int32) (rl708 : Mem → Nat → (Nat → Int32) → (Nat → Int32) → (Nat → Int32) → (Nat → Int64) → Int32 → Int32 → Option (Int32)) (σ : Mem) (n : Nat) (A0 : Nat → Int32) (A1 : Nat → Int32) (A2 : Nat → Int32) (A3 : Nat → Int64) (x4 : Int32) (x7 : Int32) (x8 : Int32) (x9 : Int32) (x10 : Int32) : Option (Int32) :=
  bi (FX8_won σ x7) fun r283 σ284 =>
  if x10 = 0 then
  (nm (x7 + (1 : Int32)) fun x_285 =>
  rl708 σ284 n A0 A1 A2 A3 x4 x_285)
  else
  (if x8 ≤ 0 then
  (if r283 ≤ 0 then
  (nm (x7 + (1 : Int32)) fun x_286 =>
  rl708 σ284 n A0 A1 A2 A3 x4 x_286)
  else
  (if (4 : Int32) ≤ r283 then
  (nm (x7 + (1 : Int32)) fun x_287 =>
  rl708 σ284 n A0 A1 A2 A3 x4 x_287)
  else
  (some (0 : Int32))))
  else
  (if r283 = x8 then
  (bi (FX8_first σ284 x7) fun r288 σ289 =>
  if r288 = x9 then
  (nm (x7 + (1 : Int32)) fun x_290 =>
  rl708 σ289 n A0 A1 A2 A3 x4 x_290)
  else
  (some (0 : Int32)))
  else
  (some (0 : Int32))))
set_option maxHeartbeats 4000000 in
set_option maxRecDepth 100000 in
theorem jL_law_904 {Y : QX} {out : Int32} (hE : ∀ σ2 : Mem, EndQ Y mL_law .ireturn [] (some σ2) [] (fun _ => [.int out])) (rl708 : Mem → Nat → (Nat → Int32) → (Nat → Int32) → (Nat → Int32) → (Nat → Int64) → Int32 → Int32 → Option (Int32)) (hr708 : ∀ (σ : Mem) (n : Nat) (A0 : Nat → Int32) (A1 : Nat → Int32) (A2 : Nat → Int32) (A3 : Nat → Int64) (x4 : Int32) (x7 : Int32), rl708 σ n A0 A1 A2 A3 x4 x7 = some out → JQ Y mL_law (some σ) [] [.inl (24, A0), .inl (36, A1), .inl (6, A2), .inr (3, A3)] n 708 (fun b => [(0, .ref (qb Y)), (1, .ref (xad (qX Y) 0)), (2, .ref (b 0)), (3, .ref (b 1)), (4, .int x4), (5, .ref (b 2)), (6, .ref (b 3)), (7, .int x7)]) (fun _ => [])) (σ : Mem) (n : Nat) (A0 : Nat → Int32) (A1 : Nat → Int32) (A2 : Nat → Int32) (A3 : Nat → Int64) (x4 : Int32) (x7 : Int32) (x8 : Int32) (x9 : Int32) (x10 : Int32) (h : FL_law_904 (qL Y) (qs Y) rl708 σ n A0 A1 A2 A3 x4 x7 x8 x9 x10 = some out) : JQ Y mL_law (some σ) [] [.inl (24, A0), .inl (36, A1), .inl (6, A2), .inr (3, A3)] n 904 (fun b => [(0, .ref (qb Y)), (1, .ref (xad (qX Y) 0)), (2, .ref (b 0)), (3, .ref (b 1)), (4, .int x4), (5, .ref (b 2)), (6, .ref (b 3)), (7, .int x7), (8, .int x8), (9, .int x9), (10, .int x10)]) (fun _ => []) := by
  refine q_aload_n 1 (fun _ => xad (qX Y) 0) dL_law_904 rfl rfl (fun _ => rfl) ?_
  refine q_iload 7 dL_law_905 rfl (fun _ => rfl) ?_
  obtain ⟨r283, σ284, hc, h⟩ := bi_of h
  refine q_callX [.int x7] [] (coX8_won σ x7 r283 σ284 hc) mv_RL_64 (by decide) rfl rfl (fun _ => rfl) (Nat.le_of_ble_eq_true rfl) dL_law_907 rfl ?_
  refine q_istoreV (fun b => [(11, .int r283), (0, .ref (qb Y)), (1, .ref (xad (qX Y) 0)), (2, .ref (b 0)), (3, .ref (b 1)), (4, .int x4), (5, .ref (b 2)), (6, .ref (b 3)), (7, .int x7), (8, .int x8), (9, .int x9), (10, .int x10)]) dL_law_910 rfl (show 11 < 27 by decide) (fun _ => rfl) ?_
  refine q_iload 11 dL_law_912 rfl (fun _ => rfl) ?_
  refine q_if_eq dL_law_914 rfl rfl h (fun c h => ?_) (fun c h => ?_)
  · refine q_iinc 8 (fun x_285 => (fun b => [(7, .int x_285), (11, .int r283), (0, .ref (qb Y)), (1, .ref (xad (qX Y) 0)), (2, .ref (b 0)), (3, .ref (b 1)), (4, .int x4), (5, .ref (b 2)), (6, .ref (b 3)), (8, .int x8), (9, .int x9), (10, .int x10)])) dL_law_956 rfl (fun _ => rfl) ki_1 (show 7 < 27 by decide) (fun _ _ => rfl) h (fun x_285 h => ?_)
    refine q_goto dL_law_959 rfl ?_
    refine q_sub [2, 3, 4, 5, 6, 7, 8, 0] (fun b => [(0, .ref (qb Y)), (1, .ref (xad (qX Y) 0)), (2, .ref (b 0)), (3, .ref (b 1)), (4, .int x4), (5, .ref (b 2)), (6, .ref (b 3)), (7, .int x_285)]) (fun _ => rfl) ?_
    exact hr708 σ284 _ A0 A1 A2 A3 x4 x_285 h
  · refine q_iload 9 dL_law_917 rfl (fun _ => rfl) ?_
    refine q_if_le dL_law_919 rfl rfl h (fun c h => ?_) (fun c h => ?_)
    · refine q_iload 0 dL_law_943 rfl (fun _ => rfl) ?_
      refine q_if_le dL_law_945 rfl rfl h (fun c h => ?_) (fun c h => ?_)
      · refine q_iinc 8 (fun x_286 => (fun b => [(7, .int x_286), (11, .int r283), (0, .ref (qb Y)), (1, .ref (xad (qX Y) 0)), (2, .ref (b 0)), (3, .ref (b 1)), (4, .int x4), (5, .ref (b 2)), (6, .ref (b 3)), (8, .int x8), (9, .int x9), (10, .int x10)])) dL_law_956 rfl (fun _ => rfl) ki_1 (show 7 < 27 by decide) (fun _ _ => rfl) h (fun x_286 h => ?_)
        refine q_goto dL_law_959 rfl ?_
        refine q_sub [2, 3, 4, 5, 6, 7, 8, 0] (fun b => [(0, .ref (qb Y)), (1, .ref (xad (qX Y) 0)), (2, .ref (b 0)), (3, .ref (b 1)), (4, .int x4), (5, .ref (b 2)), (6, .ref (b 3)), (7, .int x_286)]) (fun _ => rfl) ?_
        exact hr708 σ284 _ A0 A1 A2 A3 x4 x_286 h
      · refine q_iload 0 dL_law_948 rfl (fun _ => rfl) ?_
        refine q_iconst dL_law_950 rfl ki_4 ?_
        refine q_icmp_ge dL_law_951 rfl rfl h (fun c h => ?_) (fun c h => ?_)
        · refine q_iinc 8 (fun x_287 => (fun b => [(7, .int x_287), (11, .int r283), (0, .ref (qb Y)), (1, .ref (xad (qX Y) 0)), (2, .ref (b 0)), (3, .ref (b 1)), (4, .int x4), (5, .ref (b 2)), (6, .ref (b 3)), (8, .int x8), (9, .int x9), (10, .int x10)])) dL_law_956 rfl (fun _ => rfl) ki_1 (show 7 < 27 by decide) (fun _ _ => rfl) h (fun x_287 h => ?_)
          refine q_goto dL_law_959 rfl ?_
          refine q_sub [2, 3, 4, 5, 6, 7, 8, 0] (fun b => [(0, .ref (qb Y)), (1, .ref (xad (qX Y) 0)), (2, .ref (b 0)), (3, .ref (b 1)), (4, .int x4), (5, .ref (b 2)), (6, .ref (b 3)), (7, .int x_287)]) (fun _ => rfl) ?_
          exact hr708 σ284 _ A0 A1 A2 A3 x4 x_287 h
        · refine q_iconst dL_law_954 rfl ki_0 ?_
          refine q_sub [0, 1, 2, 5, 8, 9, 10, 11] (fun _ => [(11, .int r283), (0, .ref (qb Y)), (1, .ref (xad (qX Y) 0)), (4, .int x4), (7, .int x7), (8, .int x8), (9, .int x9), (10, .int x10)]) (fun _ => rfl) ?_
          refine q_pick [] [] [] (fun _ => [(11, .int r283), (0, .ref (qb Y)), (1, .ref (xad (qX Y) 0)), (4, .int x4), (7, .int x7), (8, .int x8), (9, .int x9), (10, .int x10)]) (fun _ => [.int (0 : Int32)]) rfl rfl (by decide) rfl (fun _ => rfl) (fun _ => rfl) ?_
          cases h
          exact hE _ _ _ _ dL_law_955
    · refine q_iload 0 dL_law_922 rfl (fun _ => rfl) ?_
      refine q_iload 9 dL_law_924 rfl (fun _ => rfl) ?_
      refine q_icmp_ne dL_law_926 rfl rfl h (fun c h => ?_) (fun c h => ?_)
      · refine q_iconst dL_law_954 rfl ki_0 ?_
        refine q_sub [0, 1, 2, 5, 8, 9, 10, 11] (fun _ => [(11, .int r283), (0, .ref (qb Y)), (1, .ref (xad (qX Y) 0)), (4, .int x4), (7, .int x7), (8, .int x8), (9, .int x9), (10, .int x10)]) (fun _ => rfl) ?_
        refine q_pick [] [] [] (fun _ => [(11, .int r283), (0, .ref (qb Y)), (1, .ref (xad (qX Y) 0)), (4, .int x4), (7, .int x7), (8, .int x8), (9, .int x9), (10, .int x10)]) (fun _ => [.int (0 : Int32)]) rfl rfl (by decide) rfl (fun _ => rfl) (fun _ => rfl) ?_
        cases h
        exact hE _ _ _ _ dL_law_955
      · refine q_aload_n 2 (fun _ => xad (qX Y) 0) dL_law_929 rfl rfl (fun _ => rfl) ?_
        refine q_iload 8 dL_law_930 rfl (fun _ => rfl) ?_
        obtain ⟨r288, σ289, hc, h⟩ := bi_of h
        refine q_callX [.int x7] [] (coX8_first σ284 x7 r288 σ289 hc) mv_RL_68 (by decide) rfl rfl (fun _ => rfl) (Nat.le_of_ble_eq_true rfl) dL_law_932 rfl ?_
        refine q_iload 10 dL_law_935 rfl (fun _ => rfl) ?_
        refine q_icmp_eq dL_law_937 rfl rfl h (fun c h => ?_) (fun c h => ?_)
        · refine q_iinc 8 (fun x_290 => (fun b => [(7, .int x_290), (11, .int r283), (0, .ref (qb Y)), (1, .ref (xad (qX Y) 0)), (2, .ref (b 0)), (3, .ref (b 1)), (4, .int x4), (5, .ref (b 2)), (6, .ref (b 3)), (8, .int x8), (9, .int x9), (10, .int x10)])) dL_law_956 rfl (fun _ => rfl) ki_1 (show 7 < 27 by decide) (fun _ _ => rfl) h (fun x_290 h => ?_)
          refine q_goto dL_law_959 rfl ?_
          refine q_sub [2, 3, 4, 5, 6, 7, 8, 0] (fun b => [(0, .ref (qb Y)), (1, .ref (xad (qX Y) 0)), (2, .ref (b 0)), (3, .ref (b 1)), (4, .int x4), (5, .ref (b 2)), (6, .ref (b 3)), (7, .int x_290)]) (fun _ => rfl) ?_
          exact hr708 σ289 _ A0 A1 A2 A3 x4 x_290 h
        · refine q_goto dL_law_940 rfl ?_
          refine q_iconst dL_law_954 rfl ki_0 ?_
          refine q_sub [0, 1, 2, 5, 8, 9, 10, 11] (fun _ => [(11, .int r283), (0, .ref (qb Y)), (1, .ref (xad (qX Y) 0)), (4, .int x4), (7, .int x7), (8, .int x8), (9, .int x9), (10, .int x10)]) (fun _ => rfl) ?_
          refine q_pick [] [] [] (fun _ => [(11, .int r283), (0, .ref (qb Y)), (1, .ref (xad (qX Y) 0)), (4, .int x4), (7, .int x7), (8, .int x8), (9, .int x9), (10, .int x10)]) (fun _ => [.int (0 : Int32)]) rfl rfl (by decide) rfl (fun _ => rfl) (fun _ => rfl) ?_
          cases h
          exact hE _ _ _ _ dL_law_955
noncomputable def BL_law_823 (L : Nat) (xs : Nat → Int32) (rl708 : Mem → Nat → (Nat → Int32) → (Nat → Int32) → (Nat → Int32) → (Nat → Int64) → Int32 → Int32 → Option (Int32)) (rl809 : Mem → Nat → (Nat → Int32) → (Nat → Int32) → (Nat → Int32) → (Nat → Int64) → Int32 → Int32 → Int32 → Int32 → Int32 → Int32 → Option (Int32)) (rl823 : Mem → Nat → (Nat → Int32) → (Nat → Int32) → (Nat → Int32) → (Nat → Int64) → Int32 → Int32 → Int32 → Int32 → Int32 → Int32 → Int32 → Option (Int32)) (σ : Mem) (n : Nat) (A0 : Nat → Int32) (A1 : Nat → Int32) (A2 : Nat → Int32) (A3 : Nat → Int64) (x4 : Int32) (x7 : Int32) (x8 : Int32) (x9 : Int32) (x10 : Int32) (x11 : Int32) (x12 : Int32) : Option (Int32) :=
  if x4 ≤ x12 then
  (nm (x11 + (1 : Int32)) fun x_291 =>
  rl809 σ n A0 A1 A2 A3 x4 x7 x8 x9 x10 x_291)
  else
  (if 0 ≤ x8 then
  (nm (x11 + (1 : Int32)) fun x_292 =>
  rl809 σ n A0 A1 A2 A3 x4 x7 x8 x9 x10 x_292)
  else
  (rd (0 : Int32) 3 fun j293 =>
  al 600000 n 2 fun n295 =>
  bn (FL_outcome A0 A1 A2 0 (A3 j293) x12 x7 (1 : Int32)) fun o294 =>
  if o294 = 0 then
  (rd (0 : Int32) 3 fun j297 =>
  al 600000 n295 1000 fun n299 =>
  bz (FL_forced A0 A1 A2 0 (A3 j297) x12 x7 x11) fun o298 =>
  if o298 = 0 then
  (nm (x12 + (1 : Int32)) fun x_300 =>
  rl823 σ n299 A0 A1 A2 A3 x4 x7 x8 x9 x10 x11 x_300)
  else
  (dzI (4 : Int32) <|
  dzI (4 : Int32) <|
  nm (((10 : Int32) * (x12 / (4 : Int32))) + (x12 - x12 / (4 : Int32) * (4 : Int32))) fun x_301 =>
  nm (x12 + (1 : Int32)) fun x_302 =>
  rl823 σ n299 A0 A1 A2 A3 x4 x7 x11 x_301 x10 x11 x_302))
  else
  (nm (x12 + (1 : Int32)) fun x_296 =>
  rl823 σ n295 A0 A1 A2 A3 x4 x7 x8 x9 x10 x11 x_296)))
set_option maxHeartbeats 4000000 in
set_option maxRecDepth 100000 in
theorem jL_law_823 {Y : QX} {out : Int32} (hE : ∀ σ2 : Mem, EndQ Y mL_law .ireturn [] (some σ2) [] (fun _ => [.int out])) (rl708 : Mem → Nat → (Nat → Int32) → (Nat → Int32) → (Nat → Int32) → (Nat → Int64) → Int32 → Int32 → Option (Int32)) (hr708 : ∀ (σ : Mem) (n : Nat) (A0 : Nat → Int32) (A1 : Nat → Int32) (A2 : Nat → Int32) (A3 : Nat → Int64) (x4 : Int32) (x7 : Int32), rl708 σ n A0 A1 A2 A3 x4 x7 = some out → JQ Y mL_law (some σ) [] [.inl (24, A0), .inl (36, A1), .inl (6, A2), .inr (3, A3)] n 708 (fun b => [(0, .ref (qb Y)), (1, .ref (xad (qX Y) 0)), (2, .ref (b 0)), (3, .ref (b 1)), (4, .int x4), (5, .ref (b 2)), (6, .ref (b 3)), (7, .int x7)]) (fun _ => [])) (rl809 : Mem → Nat → (Nat → Int32) → (Nat → Int32) → (Nat → Int32) → (Nat → Int64) → Int32 → Int32 → Int32 → Int32 → Int32 → Int32 → Option (Int32)) (hr809 : ∀ (σ : Mem) (n : Nat) (A0 : Nat → Int32) (A1 : Nat → Int32) (A2 : Nat → Int32) (A3 : Nat → Int64) (x4 : Int32) (x7 : Int32) (x8 : Int32) (x9 : Int32) (x10 : Int32) (x11 : Int32), rl809 σ n A0 A1 A2 A3 x4 x7 x8 x9 x10 x11 = some out → JQ Y mL_law (some σ) [] [.inl (24, A0), .inl (36, A1), .inl (6, A2), .inr (3, A3)] n 809 (fun b => [(0, .ref (qb Y)), (1, .ref (xad (qX Y) 0)), (2, .ref (b 0)), (3, .ref (b 1)), (4, .int x4), (5, .ref (b 2)), (6, .ref (b 3)), (7, .int x7), (8, .int x8), (9, .int x9), (10, .int x10), (11, .int x11)]) (fun _ => [])) (rl823 : Mem → Nat → (Nat → Int32) → (Nat → Int32) → (Nat → Int32) → (Nat → Int64) → Int32 → Int32 → Int32 → Int32 → Int32 → Int32 → Int32 → Option (Int32)) (hr823 : ∀ (σ : Mem) (n : Nat) (A0 : Nat → Int32) (A1 : Nat → Int32) (A2 : Nat → Int32) (A3 : Nat → Int64) (x4 : Int32) (x7 : Int32) (x8 : Int32) (x9 : Int32) (x10 : Int32) (x11 : Int32) (x12 : Int32), rl823 σ n A0 A1 A2 A3 x4 x7 x8 x9 x10 x11 x12 = some out → JQ Y mL_law (some σ) [] [.inl (24, A0), .inl (36, A1), .inl (6, A2), .inr (3, A3)] n 823 (fun b => [(0, .ref (qb Y)), (1, .ref (xad (qX Y) 0)), (2, .ref (b 0)), (3, .ref (b 1)), (4, .int x4), (5, .ref (b 2)), (6, .ref (b 3)), (7, .int x7), (8, .int x8), (9, .int x9), (10, .int x10), (11, .int x11), (12, .int x12)]) (fun _ => [])) (σ : Mem) (n : Nat) (A0 : Nat → Int32) (A1 : Nat → Int32) (A2 : Nat → Int32) (A3 : Nat → Int64) (x4 : Int32) (x7 : Int32) (x8 : Int32) (x9 : Int32) (x10 : Int32) (x11 : Int32) (x12 : Int32) (h : BL_law_823 (qL Y) (qs Y) rl708 rl809 rl823 σ n A0 A1 A2 A3 x4 x7 x8 x9 x10 x11 x12 = some out) : JQ Y mL_law (some σ) [] [.inl (24, A0), .inl (36, A1), .inl (6, A2), .inr (3, A3)] n 823 (fun b => [(0, .ref (qb Y)), (1, .ref (xad (qX Y) 0)), (2, .ref (b 0)), (3, .ref (b 1)), (4, .int x4), (5, .ref (b 2)), (6, .ref (b 3)), (7, .int x7), (8, .int x8), (9, .int x9), (10, .int x10), (11, .int x11), (12, .int x12)]) (fun _ => []) := by
  refine q_iload 12 dL_law_823 rfl (fun _ => rfl) ?_
  refine q_iload 4 dL_law_825 rfl (fun _ => rfl) ?_
  refine q_icmp_ge dL_law_827 rfl rfl h (fun c h => ?_) (fun c h => ?_)
  · refine q_iinc 11 (fun x_291 => (fun b => [(11, .int x_291), (0, .ref (qb Y)), (1, .ref (xad (qX Y) 0)), (2, .ref (b 0)), (3, .ref (b 1)), (4, .int x4), (5, .ref (b 2)), (6, .ref (b 3)), (7, .int x7), (8, .int x8), (9, .int x9), (10, .int x10), (12, .int x12)])) dL_law_898 rfl (fun _ => rfl) ki_1 (show 11 < 27 by decide) (fun _ _ => rfl) h (fun x_291 h => ?_)
    refine q_goto dL_law_901 rfl ?_
    refine q_sub [1, 2, 3, 4, 5, 6, 7, 8, 9, 10, 11, 0] (fun b => [(0, .ref (qb Y)), (1, .ref (xad (qX Y) 0)), (2, .ref (b 0)), (3, .ref (b 1)), (4, .int x4), (5, .ref (b 2)), (6, .ref (b 3)), (7, .int x7), (8, .int x8), (9, .int x9), (10, .int x10), (11, .int x_291)]) (fun _ => rfl) ?_
    exact hr809 σ _ A0 A1 A2 A3 x4 x7 x8 x9 x10 x_291 h
  · refine q_iload 8 dL_law_830 rfl (fun _ => rfl) ?_
    refine q_if_ge dL_law_832 rfl rfl h (fun c h => ?_) (fun c h => ?_)
    · refine q_iinc 11 (fun x_292 => (fun b => [(11, .int x_292), (0, .ref (qb Y)), (1, .ref (xad (qX Y) 0)), (2, .ref (b 0)), (3, .ref (b 1)), (4, .int x4), (5, .ref (b 2)), (6, .ref (b 3)), (7, .int x7), (8, .int x8), (9, .int x9), (10, .int x10), (12, .int x12)])) dL_law_898 rfl (fun _ => rfl) ki_1 (show 11 < 27 by decide) (fun _ _ => rfl) h (fun x_292 h => ?_)
      refine q_goto dL_law_901 rfl ?_
      refine q_sub [1, 2, 3, 4, 5, 6, 7, 8, 9, 10, 11, 0] (fun b => [(0, .ref (qb Y)), (1, .ref (xad (qX Y) 0)), (2, .ref (b 0)), (3, .ref (b 1)), (4, .int x4), (5, .ref (b 2)), (6, .ref (b 3)), (7, .int x7), (8, .int x8), (9, .int x9), (10, .int x10), (11, .int x_292)]) (fun _ => rfl) ?_
      exact hr809 σ _ A0 A1 A2 A3 x4 x7 x8 x9 x10 x_292 h
    · refine q_aload_n 2 (fun b => b 0) dL_law_835 rfl rfl (fun _ => rfl) ?_
      refine q_aload_n 3 (fun b => b 1) dL_law_836 rfl rfl (fun _ => rfl) ?_
      refine q_aload 5 (fun b => b 2) dL_law_837 rfl (fun _ => rfl) ?_
      refine q_aload 6 (fun b => b 3) dL_law_839 rfl (fun _ => rfl) ?_
      refine q_iconst dL_law_841 rfl ki_0 ?_
      refine q_lald 3 3 A3 rfl dL_law_842 rfl h (fun j293 h => ?_)
      refine q_iload 12 dL_law_843 rfl (fun _ => rfl) ?_
      refine q_iload 7 dL_law_845 rfl (fun _ => rfl) ?_
      refine q_iconst dL_law_847 rfl ki_1 ?_
      refine q_pick [3, 0, 1, 2] [.inr (3, A3), .inl (24, A0), .inl (36, A1), .inl (6, A2)] [] (fun b => [(0, .ref (qb Y)), (1, .ref (xad (qX Y) 0)), (2, .ref (b 1)), (3, .ref (b 2)), (4, .int x4), (5, .ref (b 3)), (6, .ref (b 0)), (7, .int x7), (8, .int x8), (9, .int x9), (10, .int x10), (11, .int x11), (12, .int x12)]) (fun b => [.int (1 : Int32), .int x7, .int x12, .long (A3 j293), .ref (b 3), .ref (b 2), .ref (b 1)]) rfl rfl (by decide) rfl (fun _ => rfl) (fun _ => rfl) ?_
      obtain ⟨hN, h⟩ := al_of h
      obtain ⟨o294, hc, h⟩ := bn_of h
      refine q_call [.inr (3, A3)] 1 (fun b => [.ref (b 1), .ref (b 2), .ref (b 3), .long (A3 j293), .int x12, .int x7, .int (1 : Int32)]) (fun _ => []) (coL_outcome A0 A1 A2 (A3 j293) x12 x7 (1 : Int32) o294 hc) rfl rfl rfl ms_RL_56 (by decide) (Or.inr hN) (fun _ => rfl) (fun _ => rfl) (fun _ => rfl) (fun _ => Nat.le_of_ble_eq_true rfl) dL_law_848 rfl ?_
      show JQ Y mL_law (some σ) [] [.inr (3, A3), .inl (24, A0), .inl (36, A1), .inl (6, A2)] _ 851 (fun b => [(0, .ref (qb Y)), (1, .ref (xad (qX Y) 0)), (2, .ref (b 1)), (3, .ref (b 2)), (4, .int x4), (5, .ref (b 3)), (6, .ref (b 0)), (7, .int x7), (8, .int x8), (9, .int x9), (10, .int x10), (11, .int x11), (12, .int x12)]) (fun _ => [.int o294])
      refine q_if_ne dL_law_851 rfl rfl h (fun c h => ?_) (fun c h => ?_)
      · refine q_iinc 12 (fun x_296 => (fun b => [(12, .int x_296), (0, .ref (qb Y)), (1, .ref (xad (qX Y) 0)), (2, .ref (b 1)), (3, .ref (b 2)), (4, .int x4), (5, .ref (b 3)), (6, .ref (b 0)), (7, .int x7), (8, .int x8), (9, .int x9), (10, .int x10), (11, .int x11)])) dL_law_892 rfl (fun _ => rfl) ki_1 (show 12 < 27 by decide) (fun _ _ => rfl) h (fun x_296 h => ?_)
        refine q_goto dL_law_895 rfl ?_
        refine q_sub [1, 2, 3, 4, 5, 6, 7, 8, 9, 10, 11, 12, 0] (fun b => [(0, .ref (qb Y)), (1, .ref (xad (qX Y) 0)), (2, .ref (b 1)), (3, .ref (b 2)), (4, .int x4), (5, .ref (b 3)), (6, .ref (b 0)), (7, .int x7), (8, .int x8), (9, .int x9), (10, .int x10), (11, .int x11), (12, .int x_296)]) (fun _ => rfl) ?_
        refine q_pick [1, 2, 3, 0] [.inl (24, A0), .inl (36, A1), .inl (6, A2), .inr (3, A3)] [] (fun b => [(0, .ref (qb Y)), (1, .ref (xad (qX Y) 0)), (2, .ref (b 0)), (3, .ref (b 1)), (4, .int x4), (5, .ref (b 2)), (6, .ref (b 3)), (7, .int x7), (8, .int x8), (9, .int x9), (10, .int x10), (11, .int x11), (12, .int x_296)]) (fun _ => []) rfl rfl (by decide) rfl (fun _ => rfl) (fun _ => rfl) ?_
        exact hr823 σ _ A0 A1 A2 A3 x4 x7 x8 x9 x10 x11 x_296 h
      · refine q_aload_n 2 (fun b => b 1) dL_law_854 rfl rfl (fun _ => rfl) ?_
        refine q_aload_n 3 (fun b => b 2) dL_law_855 rfl rfl (fun _ => rfl) ?_
        refine q_aload 5 (fun b => b 3) dL_law_856 rfl (fun _ => rfl) ?_
        refine q_aload 6 (fun b => b 0) dL_law_858 rfl (fun _ => rfl) ?_
        refine q_iconst dL_law_860 rfl ki_0 ?_
        refine q_lald 0 3 A3 rfl dL_law_861 rfl h (fun j297 h => ?_)
        refine q_iload 12 dL_law_862 rfl (fun _ => rfl) ?_
        refine q_iload 7 dL_law_864 rfl (fun _ => rfl) ?_
        refine q_iload 11 dL_law_866 rfl (fun _ => rfl) ?_
        obtain ⟨hN, h⟩ := al_of h
        obtain ⟨o298, hc, hz, h⟩ := bz_of h
        refine q_call [.inr (3, A3)] 1 (fun b => [.ref (b 1), .ref (b 2), .ref (b 3), .long (A3 j297), .int x12, .int x7, .int x11]) (fun _ => []) (coL_forced A0 A1 A2 (A3 j297) x12 x7 x11 o298 hc hz) rfl rfl rfl ms_RL_60 (by decide) (Or.inr hN) (fun _ => rfl) (fun _ => rfl) (fun _ => rfl) (fun _ => Nat.le_of_ble_eq_true rfl) dL_law_868 rfl ?_
        show JQ Y mL_law (some σ) [] [.inr (3, A3), .inl (24, A0), .inl (36, A1), .inl (6, A2)] _ 871 (fun b => [(0, .ref (qb Y)), (1, .ref (xad (qX Y) 0)), (2, .ref (b 1)), (3, .ref (b 2)), (4, .int x4), (5, .ref (b 3)), (6, .ref (b 0)), (7, .int x7), (8, .int x8), (9, .int x9), (10, .int x10), (11, .int x11), (12, .int x12)]) (fun _ => [.int o298])
        refine q_if_eq dL_law_871 rfl rfl h (fun c h => ?_) (fun c h => ?_)
        · refine q_iinc 12 (fun x_300 => (fun b => [(12, .int x_300), (0, .ref (qb Y)), (1, .ref (xad (qX Y) 0)), (2, .ref (b 1)), (3, .ref (b 2)), (4, .int x4), (5, .ref (b 3)), (6, .ref (b 0)), (7, .int x7), (8, .int x8), (9, .int x9), (10, .int x10), (11, .int x11)])) dL_law_892 rfl (fun _ => rfl) ki_1 (show 12 < 27 by decide) (fun _ _ => rfl) h (fun x_300 h => ?_)
          refine q_goto dL_law_895 rfl ?_
          refine q_sub [1, 2, 3, 4, 5, 6, 7, 8, 9, 10, 11, 12, 0] (fun b => [(0, .ref (qb Y)), (1, .ref (xad (qX Y) 0)), (2, .ref (b 1)), (3, .ref (b 2)), (4, .int x4), (5, .ref (b 3)), (6, .ref (b 0)), (7, .int x7), (8, .int x8), (9, .int x9), (10, .int x10), (11, .int x11), (12, .int x_300)]) (fun _ => rfl) ?_
          refine q_pick [1, 2, 3, 0] [.inl (24, A0), .inl (36, A1), .inl (6, A2), .inr (3, A3)] [] (fun b => [(0, .ref (qb Y)), (1, .ref (xad (qX Y) 0)), (2, .ref (b 0)), (3, .ref (b 1)), (4, .int x4), (5, .ref (b 2)), (6, .ref (b 3)), (7, .int x7), (8, .int x8), (9, .int x9), (10, .int x10), (11, .int x11), (12, .int x_300)]) (fun _ => []) rfl rfl (by decide) rfl (fun _ => rfl) (fun _ => rfl) ?_
          exact hr823 σ _ A0 A1 A2 A3 x4 x7 x8 x9 x10 x11 x_300 h
        · refine q_iload 11 dL_law_874 rfl (fun _ => rfl) ?_
          refine q_istoreV (fun b => [(8, .int x11), (0, .ref (qb Y)), (1, .ref (xad (qX Y) 0)), (2, .ref (b 1)), (3, .ref (b 2)), (4, .int x4), (5, .ref (b 3)), (6, .ref (b 0)), (7, .int x7), (9, .int x9), (10, .int x10), (11, .int x11), (12, .int x12)]) dL_law_876 rfl (show 8 < 27 by decide) (fun _ => rfl) ?_
          refine q_bipush dL_law_878 rfl kb_10 ?_
          refine q_iload 12 dL_law_880 rfl (fun _ => rfl) ?_
          refine q_iconst dL_law_882 rfl ki_4 ?_
          refine q_idiv dL_law_883 rfl h (fun h => ?_)
          refine q_imul dL_law_884 rfl ?_
          refine q_iload 12 dL_law_885 rfl (fun _ => rfl) ?_
          refine q_iconst dL_law_887 rfl ki_4 ?_
          refine q_irem dL_law_888 rfl h (fun h => ?_)
          refine q_iadd dL_law_889 rfl ?_
          refine q_istore (fun x_301 => (fun b => [(9, .int x_301), (8, .int x11), (0, .ref (qb Y)), (1, .ref (xad (qX Y) 0)), (2, .ref (b 1)), (3, .ref (b 2)), (4, .int x4), (5, .ref (b 3)), (6, .ref (b 0)), (7, .int x7), (10, .int x10), (11, .int x11), (12, .int x12)])) dL_law_890 rfl (show 9 < 27 by decide) (fun _ _ => rfl) h (fun x_301 h => ?_)
          refine q_iinc 12 (fun x_302 => (fun b => [(12, .int x_302), (9, .int x_301), (8, .int x11), (0, .ref (qb Y)), (1, .ref (xad (qX Y) 0)), (2, .ref (b 1)), (3, .ref (b 2)), (4, .int x4), (5, .ref (b 3)), (6, .ref (b 0)), (7, .int x7), (10, .int x10), (11, .int x11)])) dL_law_892 rfl (fun _ => rfl) ki_1 (show 12 < 27 by decide) (fun _ _ => rfl) h (fun x_302 h => ?_)
          refine q_goto dL_law_895 rfl ?_
          refine q_sub [3, 4, 5, 6, 7, 8, 9, 10, 2, 1, 11, 12, 0] (fun b => [(0, .ref (qb Y)), (1, .ref (xad (qX Y) 0)), (2, .ref (b 1)), (3, .ref (b 2)), (4, .int x4), (5, .ref (b 3)), (6, .ref (b 0)), (7, .int x7), (8, .int x11), (9, .int x_301), (10, .int x10), (11, .int x11), (12, .int x_302)]) (fun _ => rfl) ?_
          refine q_pick [1, 2, 3, 0] [.inl (24, A0), .inl (36, A1), .inl (6, A2), .inr (3, A3)] [] (fun b => [(0, .ref (qb Y)), (1, .ref (xad (qX Y) 0)), (2, .ref (b 0)), (3, .ref (b 1)), (4, .int x4), (5, .ref (b 2)), (6, .ref (b 3)), (7, .int x7), (8, .int x11), (9, .int x_301), (10, .int x10), (11, .int x11), (12, .int x_302)]) (fun _ => []) rfl rfl (by decide) rfl (fun _ => rfl) (fun _ => rfl) ?_
          exact hr823 σ _ A0 A1 A2 A3 x4 x7 x11 x_301 x10 x11 x_302 h
noncomputable def FL_law_823 (L : Nat) (xs : Nat → Int32) (rl708 : Mem → Nat → (Nat → Int32) → (Nat → Int32) → (Nat → Int32) → (Nat → Int64) → Int32 → Int32 → Option (Int32)) (rl809 : Mem → Nat → (Nat → Int32) → (Nat → Int32) → (Nat → Int32) → (Nat → Int64) → Int32 → Int32 → Int32 → Int32 → Int32 → Int32 → Option (Int32)) (fu : Nat) : Mem → Nat → (Nat → Int32) → (Nat → Int32) → (Nat → Int32) → (Nat → Int64) → Int32 → Int32 → Int32 → Int32 → Int32 → Int32 → Int32 → Option (Int32) :=
  Nat.rec (fun _ _ _ _ _ _ _ _ _ _ _ _ _ => none) (fun _ ih => BL_law_823 L xs rl708 rl809 ih) fu
theorem lL_law_823 {Y : QX} {out : Int32} (hE : ∀ σ2 : Mem, EndQ Y mL_law .ireturn [] (some σ2) [] (fun _ => [.int out])) (rl708 : Mem → Nat → (Nat → Int32) → (Nat → Int32) → (Nat → Int32) → (Nat → Int64) → Int32 → Int32 → Option (Int32)) (hr708 : ∀ (σ : Mem) (n : Nat) (A0 : Nat → Int32) (A1 : Nat → Int32) (A2 : Nat → Int32) (A3 : Nat → Int64) (x4 : Int32) (x7 : Int32), rl708 σ n A0 A1 A2 A3 x4 x7 = some out → JQ Y mL_law (some σ) [] [.inl (24, A0), .inl (36, A1), .inl (6, A2), .inr (3, A3)] n 708 (fun b => [(0, .ref (qb Y)), (1, .ref (xad (qX Y) 0)), (2, .ref (b 0)), (3, .ref (b 1)), (4, .int x4), (5, .ref (b 2)), (6, .ref (b 3)), (7, .int x7)]) (fun _ => [])) (rl809 : Mem → Nat → (Nat → Int32) → (Nat → Int32) → (Nat → Int32) → (Nat → Int64) → Int32 → Int32 → Int32 → Int32 → Int32 → Int32 → Option (Int32)) (hr809 : ∀ (σ : Mem) (n : Nat) (A0 : Nat → Int32) (A1 : Nat → Int32) (A2 : Nat → Int32) (A3 : Nat → Int64) (x4 : Int32) (x7 : Int32) (x8 : Int32) (x9 : Int32) (x10 : Int32) (x11 : Int32), rl809 σ n A0 A1 A2 A3 x4 x7 x8 x9 x10 x11 = some out → JQ Y mL_law (some σ) [] [.inl (24, A0), .inl (36, A1), .inl (6, A2), .inr (3, A3)] n 809 (fun b => [(0, .ref (qb Y)), (1, .ref (xad (qX Y) 0)), (2, .ref (b 0)), (3, .ref (b 1)), (4, .int x4), (5, .ref (b 2)), (6, .ref (b 3)), (7, .int x7), (8, .int x8), (9, .int x9), (10, .int x10), (11, .int x11)]) (fun _ => [])) : ∀ (fu : Nat) (σ : Mem) (n : Nat) (A0 : Nat → Int32) (A1 : Nat → Int32) (A2 : Nat → Int32) (A3 : Nat → Int64) (x4 : Int32) (x7 : Int32) (x8 : Int32) (x9 : Int32) (x10 : Int32) (x11 : Int32) (x12 : Int32), FL_law_823 (qL Y) (qs Y) rl708 rl809 fu σ n A0 A1 A2 A3 x4 x7 x8 x9 x10 x11 x12 = some out → JQ Y mL_law (some σ) [] [.inl (24, A0), .inl (36, A1), .inl (6, A2), .inr (3, A3)] n 823 (fun b => [(0, .ref (qb Y)), (1, .ref (xad (qX Y) 0)), (2, .ref (b 0)), (3, .ref (b 1)), (4, .int x4), (5, .ref (b 2)), (6, .ref (b 3)), (7, .int x7), (8, .int x8), (9, .int x9), (10, .int x10), (11, .int x11), (12, .int x12)]) (fun _ => []) := by
  intro fu
  induction fu with
  | zero => intro σ n A0 A1 A2 A3 x4 x7 x8 x9 x10 x11 x12 h; exact nn h
  | succ fu ih => intro σ n A0 A1 A2 A3 x4 x7 x8 x9 x10 x11 x12 h; exact jL_law_823 hE rl708 hr708 rl809 hr809 (FL_law_823 (qL Y) (qs Y) rl708 rl809 fu) ih σ n A0 A1 A2 A3 x4 x7 x8 x9 x10 x11 x12 h
noncomputable def BL_law_809 (L : Nat) (xs : Nat → Int32) (rl708 : Mem → Nat → (Nat → Int32) → (Nat → Int32) → (Nat → Int32) → (Nat → Int64) → Int32 → Int32 → Option (Int32)) (rl809 : Mem → Nat → (Nat → Int32) → (Nat → Int32) → (Nat → Int32) → (Nat → Int64) → Int32 → Int32 → Int32 → Int32 → Int32 → Int32 → Option (Int32)) (σ : Mem) (n : Nat) (A0 : Nat → Int32) (A1 : Nat → Int32) (A2 : Nat → Int32) (A3 : Nat → Int64) (x4 : Int32) (x7 : Int32) (x8 : Int32) (x9 : Int32) (x10 : Int32) (x11 : Int32) : Option (Int32) :=
  if (4 : Int32) ≤ x11 then
  (FL_law_904 L xs rl708 σ n A0 A1 A2 A3 x4 x7 x8 x9 x10)
  else
  (if 0 ≤ x8 then
  (FL_law_904 L xs rl708 σ n A0 A1 A2 A3 x4 x7 x8 x9 x10)
  else
  (FL_law_823 L xs rl708 rl809 FU σ n A0 A1 A2 A3 x4 x7 x8 x9 x10 x11 (0 : Int32)))
set_option maxHeartbeats 4000000 in
set_option maxRecDepth 100000 in
theorem jL_law_809 {Y : QX} {out : Int32} (hE : ∀ σ2 : Mem, EndQ Y mL_law .ireturn [] (some σ2) [] (fun _ => [.int out])) (rl708 : Mem → Nat → (Nat → Int32) → (Nat → Int32) → (Nat → Int32) → (Nat → Int64) → Int32 → Int32 → Option (Int32)) (hr708 : ∀ (σ : Mem) (n : Nat) (A0 : Nat → Int32) (A1 : Nat → Int32) (A2 : Nat → Int32) (A3 : Nat → Int64) (x4 : Int32) (x7 : Int32), rl708 σ n A0 A1 A2 A3 x4 x7 = some out → JQ Y mL_law (some σ) [] [.inl (24, A0), .inl (36, A1), .inl (6, A2), .inr (3, A3)] n 708 (fun b => [(0, .ref (qb Y)), (1, .ref (xad (qX Y) 0)), (2, .ref (b 0)), (3, .ref (b 1)), (4, .int x4), (5, .ref (b 2)), (6, .ref (b 3)), (7, .int x7)]) (fun _ => [])) (rl809 : Mem → Nat → (Nat → Int32) → (Nat → Int32) → (Nat → Int32) → (Nat → Int64) → Int32 → Int32 → Int32 → Int32 → Int32 → Int32 → Option (Int32)) (hr809 : ∀ (σ : Mem) (n : Nat) (A0 : Nat → Int32) (A1 : Nat → Int32) (A2 : Nat → Int32) (A3 : Nat → Int64) (x4 : Int32) (x7 : Int32) (x8 : Int32) (x9 : Int32) (x10 : Int32) (x11 : Int32), rl809 σ n A0 A1 A2 A3 x4 x7 x8 x9 x10 x11 = some out → JQ Y mL_law (some σ) [] [.inl (24, A0), .inl (36, A1), .inl (6, A2), .inr (3, A3)] n 809 (fun b => [(0, .ref (qb Y)), (1, .ref (xad (qX Y) 0)), (2, .ref (b 0)), (3, .ref (b 1)), (4, .int x4), (5, .ref (b 2)), (6, .ref (b 3)), (7, .int x7), (8, .int x8), (9, .int x9), (10, .int x10), (11, .int x11)]) (fun _ => [])) (σ : Mem) (n : Nat) (A0 : Nat → Int32) (A1 : Nat → Int32) (A2 : Nat → Int32) (A3 : Nat → Int64) (x4 : Int32) (x7 : Int32) (x8 : Int32) (x9 : Int32) (x10 : Int32) (x11 : Int32) (h : BL_law_809 (qL Y) (qs Y) rl708 rl809 σ n A0 A1 A2 A3 x4 x7 x8 x9 x10 x11 = some out) : JQ Y mL_law (some σ) [] [.inl (24, A0), .inl (36, A1), .inl (6, A2), .inr (3, A3)] n 809 (fun b => [(0, .ref (qb Y)), (1, .ref (xad (qX Y) 0)), (2, .ref (b 0)), (3, .ref (b 1)), (4, .int x4), (5, .ref (b 2)), (6, .ref (b 3)), (7, .int x7), (8, .int x8), (9, .int x9), (10, .int x10), (11, .int x11)]) (fun _ => []) := by
  refine q_iload 11 dL_law_809 rfl (fun _ => rfl) ?_
  refine q_iconst dL_law_811 rfl ki_4 ?_
  refine q_icmp_ge dL_law_812 rfl rfl h (fun c h => ?_) (fun c h => ?_)
  · refine q_sub [0, 1, 2, 3, 4, 5, 6, 7, 8, 9, 10] (fun b => [(0, .ref (qb Y)), (1, .ref (xad (qX Y) 0)), (2, .ref (b 0)), (3, .ref (b 1)), (4, .int x4), (5, .ref (b 2)), (6, .ref (b 3)), (7, .int x7), (8, .int x8), (9, .int x9), (10, .int x10)]) (fun _ => rfl) ?_
    exact jL_law_904 hE rl708 hr708 σ _ A0 A1 A2 A3 x4 x7 x8 x9 x10 h
  · refine q_iload 8 dL_law_815 rfl (fun _ => rfl) ?_
    refine q_if_ge dL_law_817 rfl rfl h (fun c h => ?_) (fun c h => ?_)
    · refine q_sub [0, 1, 2, 3, 4, 5, 6, 7, 8, 9, 10] (fun b => [(0, .ref (qb Y)), (1, .ref (xad (qX Y) 0)), (2, .ref (b 0)), (3, .ref (b 1)), (4, .int x4), (5, .ref (b 2)), (6, .ref (b 3)), (7, .int x7), (8, .int x8), (9, .int x9), (10, .int x10)]) (fun _ => rfl) ?_
      exact jL_law_904 hE rl708 hr708 σ _ A0 A1 A2 A3 x4 x7 x8 x9 x10 h
    · refine q_iconst dL_law_820 rfl ki_0 ?_
      refine q_istoreV (fun b => [(12, .int (0 : Int32)), (0, .ref (qb Y)), (1, .ref (xad (qX Y) 0)), (2, .ref (b 0)), (3, .ref (b 1)), (4, .int x4), (5, .ref (b 2)), (6, .ref (b 3)), (7, .int x7), (8, .int x8), (9, .int x9), (10, .int x10), (11, .int x11)]) dL_law_821 rfl (show 12 < 27 by decide) (fun _ => rfl) ?_
      refine q_sub [1, 2, 3, 4, 5, 6, 7, 8, 9, 10, 11, 12, 0] (fun b => [(0, .ref (qb Y)), (1, .ref (xad (qX Y) 0)), (2, .ref (b 0)), (3, .ref (b 1)), (4, .int x4), (5, .ref (b 2)), (6, .ref (b 3)), (7, .int x7), (8, .int x8), (9, .int x9), (10, .int x10), (11, .int x11), (12, .int (0 : Int32))]) (fun _ => rfl) ?_
      exact lL_law_823 hE rl708 hr708 rl809 hr809 FU σ _ A0 A1 A2 A3 x4 x7 x8 x9 x10 x11 (0 : Int32) h
noncomputable def FL_law_809 (L : Nat) (xs : Nat → Int32) (rl708 : Mem → Nat → (Nat → Int32) → (Nat → Int32) → (Nat → Int32) → (Nat → Int64) → Int32 → Int32 → Option (Int32)) (fu : Nat) : Mem → Nat → (Nat → Int32) → (Nat → Int32) → (Nat → Int32) → (Nat → Int64) → Int32 → Int32 → Int32 → Int32 → Int32 → Int32 → Option (Int32) :=
  Nat.rec (fun _ _ _ _ _ _ _ _ _ _ _ _ => none) (fun _ ih => BL_law_809 L xs rl708 ih) fu
theorem lL_law_809 {Y : QX} {out : Int32} (hE : ∀ σ2 : Mem, EndQ Y mL_law .ireturn [] (some σ2) [] (fun _ => [.int out])) (rl708 : Mem → Nat → (Nat → Int32) → (Nat → Int32) → (Nat → Int32) → (Nat → Int64) → Int32 → Int32 → Option (Int32)) (hr708 : ∀ (σ : Mem) (n : Nat) (A0 : Nat → Int32) (A1 : Nat → Int32) (A2 : Nat → Int32) (A3 : Nat → Int64) (x4 : Int32) (x7 : Int32), rl708 σ n A0 A1 A2 A3 x4 x7 = some out → JQ Y mL_law (some σ) [] [.inl (24, A0), .inl (36, A1), .inl (6, A2), .inr (3, A3)] n 708 (fun b => [(0, .ref (qb Y)), (1, .ref (xad (qX Y) 0)), (2, .ref (b 0)), (3, .ref (b 1)), (4, .int x4), (5, .ref (b 2)), (6, .ref (b 3)), (7, .int x7)]) (fun _ => [])) : ∀ (fu : Nat) (σ : Mem) (n : Nat) (A0 : Nat → Int32) (A1 : Nat → Int32) (A2 : Nat → Int32) (A3 : Nat → Int64) (x4 : Int32) (x7 : Int32) (x8 : Int32) (x9 : Int32) (x10 : Int32) (x11 : Int32), FL_law_809 (qL Y) (qs Y) rl708 fu σ n A0 A1 A2 A3 x4 x7 x8 x9 x10 x11 = some out → JQ Y mL_law (some σ) [] [.inl (24, A0), .inl (36, A1), .inl (6, A2), .inr (3, A3)] n 809 (fun b => [(0, .ref (qb Y)), (1, .ref (xad (qX Y) 0)), (2, .ref (b 0)), (3, .ref (b 1)), (4, .int x4), (5, .ref (b 2)), (6, .ref (b 3)), (7, .int x7), (8, .int x8), (9, .int x9), (10, .int x10), (11, .int x11)]) (fun _ => []) := by
  intro fu
  induction fu with
  | zero => intro σ n A0 A1 A2 A3 x4 x7 x8 x9 x10 x11 h; exact nn h
  | succ fu ih => intro σ n A0 A1 A2 A3 x4 x7 x8 x9 x10 x11 h; exact jL_law_809 hE rl708 hr708 (FL_law_809 (qL Y) (qs Y) rl708 fu) ih σ n A0 A1 A2 A3 x4 x7 x8 x9 x10 x11 h
noncomputable def FL_law_770 (L : Nat) (xs : Nat → Int32) (rl708 : Mem → Nat → (Nat → Int32) → (Nat → Int32) → (Nat → Int32) → (Nat → Int64) → Int32 → Int32 → Option (Int32)) (rl728 : Mem → Nat → (Nat → Int32) → (Nat → Int32) → (Nat → Int32) → (Nat → Int64) → Int32 → Int32 → Int32 → Int32 → Int32 → Int32 → Option (Int32)) (σ : Mem) (n : Nat) (A0 : Nat → Int32) (A1 : Nat → Int32) (A2 : Nat → Int32) (A3 : Nat → Int64) (x4 : Int32) (x7 : Int32) (x8 : Int32) (x9 : Int32) (x11 : Int32) (x12 : Int32) (s0 : Int32) : Option (Int32) :=
  if x12 = (1 : Int32) then
  (if 0 ≤ x8 then
  (nm (x11 + (1 : Int32)) fun x_304 =>
  rl728 σ n A0 A1 A2 A3 x4 x7 x8 x9 s0 x_304)
  else
  (dzI (4 : Int32) <|
  dzI (4 : Int32) <|
  nm (((10 : Int32) * (x11 / (4 : Int32))) + (x11 - x11 / (4 : Int32) * (4 : Int32))) fun x_305 =>
  nm (x11 + (1 : Int32)) fun x_306 =>
  rl728 σ n A0 A1 A2 A3 x4 x7 (1 : Int32) x_305 s0 x_306))
  else
  (nm (x11 + (1 : Int32)) fun x_303 =>
  rl728 σ n A0 A1 A2 A3 x4 x7 x8 x9 s0 x_303)
set_option maxHeartbeats 4000000 in
set_option maxRecDepth 100000 in
theorem jL_law_770 {Y : QX} {out : Int32} (hE : ∀ σ2 : Mem, EndQ Y mL_law .ireturn [] (some σ2) [] (fun _ => [.int out])) (rl708 : Mem → Nat → (Nat → Int32) → (Nat → Int32) → (Nat → Int32) → (Nat → Int64) → Int32 → Int32 → Option (Int32)) (hr708 : ∀ (σ : Mem) (n : Nat) (A0 : Nat → Int32) (A1 : Nat → Int32) (A2 : Nat → Int32) (A3 : Nat → Int64) (x4 : Int32) (x7 : Int32), rl708 σ n A0 A1 A2 A3 x4 x7 = some out → JQ Y mL_law (some σ) [] [.inl (24, A0), .inl (36, A1), .inl (6, A2), .inr (3, A3)] n 708 (fun b => [(0, .ref (qb Y)), (1, .ref (xad (qX Y) 0)), (2, .ref (b 0)), (3, .ref (b 1)), (4, .int x4), (5, .ref (b 2)), (6, .ref (b 3)), (7, .int x7)]) (fun _ => [])) (rl728 : Mem → Nat → (Nat → Int32) → (Nat → Int32) → (Nat → Int32) → (Nat → Int64) → Int32 → Int32 → Int32 → Int32 → Int32 → Int32 → Option (Int32)) (hr728 : ∀ (σ : Mem) (n : Nat) (A0 : Nat → Int32) (A1 : Nat → Int32) (A2 : Nat → Int32) (A3 : Nat → Int64) (x4 : Int32) (x7 : Int32) (x8 : Int32) (x9 : Int32) (x10 : Int32) (x11 : Int32), rl728 σ n A0 A1 A2 A3 x4 x7 x8 x9 x10 x11 = some out → JQ Y mL_law (some σ) [] [.inl (24, A0), .inl (36, A1), .inl (6, A2), .inr (3, A3)] n 728 (fun b => [(0, .ref (qb Y)), (1, .ref (xad (qX Y) 0)), (2, .ref (b 0)), (3, .ref (b 1)), (4, .int x4), (5, .ref (b 2)), (6, .ref (b 3)), (7, .int x7), (8, .int x8), (9, .int x9), (10, .int x10), (11, .int x11)]) (fun _ => [])) (σ : Mem) (n : Nat) (A0 : Nat → Int32) (A1 : Nat → Int32) (A2 : Nat → Int32) (A3 : Nat → Int64) (x4 : Int32) (x7 : Int32) (x8 : Int32) (x9 : Int32) (x11 : Int32) (x12 : Int32) (s0 : Int32) (h : FL_law_770 (qL Y) (qs Y) rl708 rl728 σ n A0 A1 A2 A3 x4 x7 x8 x9 x11 x12 s0 = some out) : JQ Y mL_law (some σ) [] [.inl (24, A0), .inl (36, A1), .inl (6, A2), .inr (3, A3)] n 770 (fun b => [(0, .ref (qb Y)), (1, .ref (xad (qX Y) 0)), (2, .ref (b 0)), (3, .ref (b 1)), (4, .int x4), (5, .ref (b 2)), (6, .ref (b 3)), (7, .int x7), (8, .int x8), (9, .int x9), (11, .int x11), (12, .int x12)]) (fun _ => [.int s0]) := by
  refine q_istoreV (fun b => [(10, .int s0), (0, .ref (qb Y)), (1, .ref (xad (qX Y) 0)), (2, .ref (b 0)), (3, .ref (b 1)), (4, .int x4), (5, .ref (b 2)), (6, .ref (b 3)), (7, .int x7), (8, .int x8), (9, .int x9), (11, .int x11), (12, .int x12)]) dL_law_770 rfl (show 10 < 27 by decide) (fun _ => rfl) ?_
  refine q_iload 12 dL_law_772 rfl (fun _ => rfl) ?_
  refine q_iconst dL_law_774 rfl ki_1 ?_
  refine q_icmp_ne dL_law_775 rfl rfl h (fun c h => ?_) (fun c h => ?_)
  · refine q_iinc 11 (fun x_303 => (fun b => [(11, .int x_303), (10, .int s0), (0, .ref (qb Y)), (1, .ref (xad (qX Y) 0)), (2, .ref (b 0)), (3, .ref (b 1)), (4, .int x4), (5, .ref (b 2)), (6, .ref (b 3)), (7, .int x7), (8, .int x8), (9, .int x9), (12, .int x12)])) dL_law_800 rfl (fun _ => rfl) ki_1 (show 11 < 27 by decide) (fun _ _ => rfl) h (fun x_303 h => ?_)
    refine q_goto dL_law_803 rfl ?_
    refine q_sub [2, 3, 4, 5, 6, 7, 8, 9, 10, 11, 1, 0] (fun b => [(0, .ref (qb Y)), (1, .ref (xad (qX Y) 0)), (2, .ref (b 0)), (3, .ref (b 1)), (4, .int x4), (5, .ref (b 2)), (6, .ref (b 3)), (7, .int x7), (8, .int x8), (9, .int x9), (10, .int s0), (11, .int x_303)]) (fun _ => rfl) ?_
    exact hr728 σ _ A0 A1 A2 A3 x4 x7 x8 x9 s0 x_303 h
  · refine q_iload 9 dL_law_778 rfl (fun _ => rfl) ?_
    refine q_if_ge dL_law_780 rfl rfl h (fun c h => ?_) (fun c h => ?_)
    · refine q_iinc 11 (fun x_304 => (fun b => [(11, .int x_304), (10, .int s0), (0, .ref (qb Y)), (1, .ref (xad (qX Y) 0)), (2, .ref (b 0)), (3, .ref (b 1)), (4, .int x4), (5, .ref (b 2)), (6, .ref (b 3)), (7, .int x7), (8, .int x8), (9, .int x9), (12, .int x12)])) dL_law_800 rfl (fun _ => rfl) ki_1 (show 11 < 27 by decide) (fun _ _ => rfl) h (fun x_304 h => ?_)
      refine q_goto dL_law_803 rfl ?_
      refine q_sub [2, 3, 4, 5, 6, 7, 8, 9, 10, 11, 1, 0] (fun b => [(0, .ref (qb Y)), (1, .ref (xad (qX Y) 0)), (2, .ref (b 0)), (3, .ref (b 1)), (4, .int x4), (5, .ref (b 2)), (6, .ref (b 3)), (7, .int x7), (8, .int x8), (9, .int x9), (10, .int s0), (11, .int x_304)]) (fun _ => rfl) ?_
      exact hr728 σ _ A0 A1 A2 A3 x4 x7 x8 x9 s0 x_304 h
    · refine q_iconst dL_law_783 rfl ki_1 ?_
      refine q_istoreV (fun b => [(8, .int (1 : Int32)), (10, .int s0), (0, .ref (qb Y)), (1, .ref (xad (qX Y) 0)), (2, .ref (b 0)), (3, .ref (b 1)), (4, .int x4), (5, .ref (b 2)), (6, .ref (b 3)), (7, .int x7), (9, .int x9), (11, .int x11), (12, .int x12)]) dL_law_784 rfl (show 8 < 27 by decide) (fun _ => rfl) ?_
      refine q_bipush dL_law_786 rfl kb_10 ?_
      refine q_iload 11 dL_law_788 rfl (fun _ => rfl) ?_
      refine q_iconst dL_law_790 rfl ki_4 ?_
      refine q_idiv dL_law_791 rfl h (fun h => ?_)
      refine q_imul dL_law_792 rfl ?_
      refine q_iload 11 dL_law_793 rfl (fun _ => rfl) ?_
      refine q_iconst dL_law_795 rfl ki_4 ?_
      refine q_irem dL_law_796 rfl h (fun h => ?_)
      refine q_iadd dL_law_797 rfl ?_
      refine q_istore (fun x_305 => (fun b => [(9, .int x_305), (8, .int (1 : Int32)), (10, .int s0), (0, .ref (qb Y)), (1, .ref (xad (qX Y) 0)), (2, .ref (b 0)), (3, .ref (b 1)), (4, .int x4), (5, .ref (b 2)), (6, .ref (b 3)), (7, .int x7), (11, .int x11), (12, .int x12)])) dL_law_798 rfl (show 9 < 27 by decide) (fun _ _ => rfl) h (fun x_305 h => ?_)
      refine q_iinc 11 (fun x_306 => (fun b => [(11, .int x_306), (9, .int x_305), (8, .int (1 : Int32)), (10, .int s0), (0, .ref (qb Y)), (1, .ref (xad (qX Y) 0)), (2, .ref (b 0)), (3, .ref (b 1)), (4, .int x4), (5, .ref (b 2)), (6, .ref (b 3)), (7, .int x7), (12, .int x12)])) dL_law_800 rfl (fun _ => rfl) ki_1 (show 11 < 27 by decide) (fun _ _ => rfl) h (fun x_306 h => ?_)
      refine q_goto dL_law_803 rfl ?_
      refine q_sub [4, 5, 6, 7, 8, 9, 10, 11, 2, 1, 3, 0] (fun b => [(0, .ref (qb Y)), (1, .ref (xad (qX Y) 0)), (2, .ref (b 0)), (3, .ref (b 1)), (4, .int x4), (5, .ref (b 2)), (6, .ref (b 3)), (7, .int x7), (8, .int (1 : Int32)), (9, .int x_305), (10, .int s0), (11, .int x_306)]) (fun _ => rfl) ?_
      exact hr728 σ _ A0 A1 A2 A3 x4 x7 (1 : Int32) x_305 s0 x_306 h
noncomputable def BL_law_728 (L : Nat) (xs : Nat → Int32) (rl708 : Mem → Nat → (Nat → Int32) → (Nat → Int32) → (Nat → Int32) → (Nat → Int64) → Int32 → Int32 → Option (Int32)) (rl728 : Mem → Nat → (Nat → Int32) → (Nat → Int32) → (Nat → Int32) → (Nat → Int64) → Int32 → Int32 → Int32 → Int32 → Int32 → Int32 → Option (Int32)) (σ : Mem) (n : Nat) (A0 : Nat → Int32) (A1 : Nat → Int32) (A2 : Nat → Int32) (A3 : Nat → Int64) (x4 : Int32) (x7 : Int32) (x8 : Int32) (x9 : Int32) (x10 : Int32) (x11 : Int32) : Option (Int32) :=
  if x4 ≤ x11 then
  (FL_law_809 L xs rl708 FU σ n A0 A1 A2 A3 x4 x7 x8 x9 x10 (2 : Int32))
  else
  (rd (0 : Int32) 3 fun j307 =>
  al 600000 n 2 fun n309 =>
  bn (FL_outcome A0 A1 A2 0 (A3 j307) x11 x7 (1 : Int32)) fun o308 =>
  if x10 = 0 then
  (if o308 ≤ (-2 : Int32) then
  (FL_law_770 L xs rl708 rl728 σ n309 A0 A1 A2 A3 x4 x7 x8 x9 x11 o308 (0 : Int32))
  else
  (FL_law_770 L xs rl708 rl728 σ n309 A0 A1 A2 A3 x4 x7 x8 x9 x11 o308 (1 : Int32)))
  else
  (FL_law_770 L xs rl708 rl728 σ n309 A0 A1 A2 A3 x4 x7 x8 x9 x11 o308 (1 : Int32)))
set_option maxHeartbeats 4000000 in
set_option maxRecDepth 100000 in
theorem jL_law_728 {Y : QX} {out : Int32} (hE : ∀ σ2 : Mem, EndQ Y mL_law .ireturn [] (some σ2) [] (fun _ => [.int out])) (rl708 : Mem → Nat → (Nat → Int32) → (Nat → Int32) → (Nat → Int32) → (Nat → Int64) → Int32 → Int32 → Option (Int32)) (hr708 : ∀ (σ : Mem) (n : Nat) (A0 : Nat → Int32) (A1 : Nat → Int32) (A2 : Nat → Int32) (A3 : Nat → Int64) (x4 : Int32) (x7 : Int32), rl708 σ n A0 A1 A2 A3 x4 x7 = some out → JQ Y mL_law (some σ) [] [.inl (24, A0), .inl (36, A1), .inl (6, A2), .inr (3, A3)] n 708 (fun b => [(0, .ref (qb Y)), (1, .ref (xad (qX Y) 0)), (2, .ref (b 0)), (3, .ref (b 1)), (4, .int x4), (5, .ref (b 2)), (6, .ref (b 3)), (7, .int x7)]) (fun _ => [])) (rl728 : Mem → Nat → (Nat → Int32) → (Nat → Int32) → (Nat → Int32) → (Nat → Int64) → Int32 → Int32 → Int32 → Int32 → Int32 → Int32 → Option (Int32)) (hr728 : ∀ (σ : Mem) (n : Nat) (A0 : Nat → Int32) (A1 : Nat → Int32) (A2 : Nat → Int32) (A3 : Nat → Int64) (x4 : Int32) (x7 : Int32) (x8 : Int32) (x9 : Int32) (x10 : Int32) (x11 : Int32), rl728 σ n A0 A1 A2 A3 x4 x7 x8 x9 x10 x11 = some out → JQ Y mL_law (some σ) [] [.inl (24, A0), .inl (36, A1), .inl (6, A2), .inr (3, A3)] n 728 (fun b => [(0, .ref (qb Y)), (1, .ref (xad (qX Y) 0)), (2, .ref (b 0)), (3, .ref (b 1)), (4, .int x4), (5, .ref (b 2)), (6, .ref (b 3)), (7, .int x7), (8, .int x8), (9, .int x9), (10, .int x10), (11, .int x11)]) (fun _ => [])) (σ : Mem) (n : Nat) (A0 : Nat → Int32) (A1 : Nat → Int32) (A2 : Nat → Int32) (A3 : Nat → Int64) (x4 : Int32) (x7 : Int32) (x8 : Int32) (x9 : Int32) (x10 : Int32) (x11 : Int32) (h : BL_law_728 (qL Y) (qs Y) rl708 rl728 σ n A0 A1 A2 A3 x4 x7 x8 x9 x10 x11 = some out) : JQ Y mL_law (some σ) [] [.inl (24, A0), .inl (36, A1), .inl (6, A2), .inr (3, A3)] n 728 (fun b => [(0, .ref (qb Y)), (1, .ref (xad (qX Y) 0)), (2, .ref (b 0)), (3, .ref (b 1)), (4, .int x4), (5, .ref (b 2)), (6, .ref (b 3)), (7, .int x7), (8, .int x8), (9, .int x9), (10, .int x10), (11, .int x11)]) (fun _ => []) := by
  refine q_iload 11 dL_law_728 rfl (fun _ => rfl) ?_
  refine q_iload 4 dL_law_730 rfl (fun _ => rfl) ?_
  refine q_icmp_ge dL_law_732 rfl rfl h (fun c h => ?_) (fun c h => ?_)
  · refine q_iconst dL_law_806 rfl ki_2 ?_
    refine q_istoreV (fun b => [(11, .int (2 : Int32)), (0, .ref (qb Y)), (1, .ref (xad (qX Y) 0)), (2, .ref (b 0)), (3, .ref (b 1)), (4, .int x4), (5, .ref (b 2)), (6, .ref (b 3)), (7, .int x7), (8, .int x8), (9, .int x9), (10, .int x10)]) dL_law_807 rfl (show 11 < 27 by decide) (fun _ => rfl) ?_
    refine q_sub [1, 2, 3, 4, 5, 6, 7, 8, 9, 10, 11, 0] (fun b => [(0, .ref (qb Y)), (1, .ref (xad (qX Y) 0)), (2, .ref (b 0)), (3, .ref (b 1)), (4, .int x4), (5, .ref (b 2)), (6, .ref (b 3)), (7, .int x7), (8, .int x8), (9, .int x9), (10, .int x10), (11, .int (2 : Int32))]) (fun _ => rfl) ?_
    exact lL_law_809 hE rl708 hr708 FU σ _ A0 A1 A2 A3 x4 x7 x8 x9 x10 (2 : Int32) h
  · refine q_aload_n 2 (fun b => b 0) dL_law_735 rfl rfl (fun _ => rfl) ?_
    refine q_aload_n 3 (fun b => b 1) dL_law_736 rfl rfl (fun _ => rfl) ?_
    refine q_aload 5 (fun b => b 2) dL_law_737 rfl (fun _ => rfl) ?_
    refine q_aload 6 (fun b => b 3) dL_law_739 rfl (fun _ => rfl) ?_
    refine q_iconst dL_law_741 rfl ki_0 ?_
    refine q_lald 3 3 A3 rfl dL_law_742 rfl h (fun j307 h => ?_)
    refine q_iload 11 dL_law_743 rfl (fun _ => rfl) ?_
    refine q_iload 7 dL_law_745 rfl (fun _ => rfl) ?_
    refine q_iconst dL_law_747 rfl ki_1 ?_
    refine q_pick [3, 0, 1, 2] [.inr (3, A3), .inl (24, A0), .inl (36, A1), .inl (6, A2)] [] (fun b => [(0, .ref (qb Y)), (1, .ref (xad (qX Y) 0)), (2, .ref (b 1)), (3, .ref (b 2)), (4, .int x4), (5, .ref (b 3)), (6, .ref (b 0)), (7, .int x7), (8, .int x8), (9, .int x9), (10, .int x10), (11, .int x11)]) (fun b => [.int (1 : Int32), .int x7, .int x11, .long (A3 j307), .ref (b 3), .ref (b 2), .ref (b 1)]) rfl rfl (by decide) rfl (fun _ => rfl) (fun _ => rfl) ?_
    obtain ⟨hN, h⟩ := al_of h
    obtain ⟨o308, hc, h⟩ := bn_of h
    refine q_call [.inr (3, A3)] 1 (fun b => [.ref (b 1), .ref (b 2), .ref (b 3), .long (A3 j307), .int x11, .int x7, .int (1 : Int32)]) (fun _ => []) (coL_outcome A0 A1 A2 (A3 j307) x11 x7 (1 : Int32) o308 hc) rfl rfl rfl ms_RL_56 (by decide) (Or.inr hN) (fun _ => rfl) (fun _ => rfl) (fun _ => rfl) (fun _ => Nat.le_of_ble_eq_true rfl) dL_law_748 rfl ?_
    show JQ Y mL_law (some σ) [] [.inr (3, A3), .inl (24, A0), .inl (36, A1), .inl (6, A2)] _ 751 (fun b => [(0, .ref (qb Y)), (1, .ref (xad (qX Y) 0)), (2, .ref (b 1)), (3, .ref (b 2)), (4, .int x4), (5, .ref (b 3)), (6, .ref (b 0)), (7, .int x7), (8, .int x8), (9, .int x9), (10, .int x10), (11, .int x11)]) (fun _ => [.int o308])
    refine q_istoreV (fun b => [(12, .int o308), (0, .ref (qb Y)), (1, .ref (xad (qX Y) 0)), (2, .ref (b 1)), (3, .ref (b 2)), (4, .int x4), (5, .ref (b 3)), (6, .ref (b 0)), (7, .int x7), (8, .int x8), (9, .int x9), (10, .int x10), (11, .int x11)]) dL_law_751 rfl (show 12 < 27 by decide) (fun _ => rfl) ?_
    refine q_iload 11 dL_law_753 rfl (fun _ => rfl) ?_
    refine q_if_ne dL_law_755 rfl rfl h (fun c h => ?_) (fun c h => ?_)
    · refine q_iconst dL_law_765 rfl ki_1 ?_
      refine q_goto dL_law_766 rfl ?_
      refine q_sub [1, 2, 3, 4, 5, 6, 7, 8, 9, 10, 12, 0] (fun b => [(0, .ref (qb Y)), (1, .ref (xad (qX Y) 0)), (2, .ref (b 1)), (3, .ref (b 2)), (4, .int x4), (5, .ref (b 3)), (6, .ref (b 0)), (7, .int x7), (8, .int x8), (9, .int x9), (11, .int x11), (12, .int o308)]) (fun _ => rfl) ?_
      refine q_pick [1, 2, 3, 0] [.inl (24, A0), .inl (36, A1), .inl (6, A2), .inr (3, A3)] [] (fun b => [(0, .ref (qb Y)), (1, .ref (xad (qX Y) 0)), (2, .ref (b 0)), (3, .ref (b 1)), (4, .int x4), (5, .ref (b 2)), (6, .ref (b 3)), (7, .int x7), (8, .int x8), (9, .int x9), (11, .int x11), (12, .int o308)]) (fun _ => [.int (1 : Int32)]) rfl rfl (by decide) rfl (fun _ => rfl) (fun _ => rfl) ?_
      exact jL_law_770 hE rl708 hr708 rl728 hr728 σ _ A0 A1 A2 A3 x4 x7 x8 x9 x11 o308 (1 : Int32) h
    · refine q_iload 0 dL_law_758 rfl (fun _ => rfl) ?_
      refine q_bipush dL_law_760 rfl kb_m2 ?_
      refine q_icmp_le dL_law_762 rfl rfl h (fun c h => ?_) (fun c h => ?_)
      · refine q_iconst dL_law_769 rfl ki_0 ?_
        refine q_sub [1, 2, 3, 4, 5, 6, 7, 8, 9, 10, 12, 0] (fun b => [(0, .ref (qb Y)), (1, .ref (xad (qX Y) 0)), (2, .ref (b 1)), (3, .ref (b 2)), (4, .int x4), (5, .ref (b 3)), (6, .ref (b 0)), (7, .int x7), (8, .int x8), (9, .int x9), (11, .int x11), (12, .int o308)]) (fun _ => rfl) ?_
        refine q_pick [1, 2, 3, 0] [.inl (24, A0), .inl (36, A1), .inl (6, A2), .inr (3, A3)] [] (fun b => [(0, .ref (qb Y)), (1, .ref (xad (qX Y) 0)), (2, .ref (b 0)), (3, .ref (b 1)), (4, .int x4), (5, .ref (b 2)), (6, .ref (b 3)), (7, .int x7), (8, .int x8), (9, .int x9), (11, .int x11), (12, .int o308)]) (fun _ => [.int (0 : Int32)]) rfl rfl (by decide) rfl (fun _ => rfl) (fun _ => rfl) ?_
        exact jL_law_770 hE rl708 hr708 rl728 hr728 σ _ A0 A1 A2 A3 x4 x7 x8 x9 x11 o308 (0 : Int32) h
      · refine q_iconst dL_law_765 rfl ki_1 ?_
        refine q_goto dL_law_766 rfl ?_
        refine q_sub [1, 2, 3, 4, 5, 6, 7, 8, 9, 10, 12, 0] (fun b => [(0, .ref (qb Y)), (1, .ref (xad (qX Y) 0)), (2, .ref (b 1)), (3, .ref (b 2)), (4, .int x4), (5, .ref (b 3)), (6, .ref (b 0)), (7, .int x7), (8, .int x8), (9, .int x9), (11, .int x11), (12, .int o308)]) (fun _ => rfl) ?_
        refine q_pick [1, 2, 3, 0] [.inl (24, A0), .inl (36, A1), .inl (6, A2), .inr (3, A3)] [] (fun b => [(0, .ref (qb Y)), (1, .ref (xad (qX Y) 0)), (2, .ref (b 0)), (3, .ref (b 1)), (4, .int x4), (5, .ref (b 2)), (6, .ref (b 3)), (7, .int x7), (8, .int x8), (9, .int x9), (11, .int x11), (12, .int o308)]) (fun _ => [.int (1 : Int32)]) rfl rfl (by decide) rfl (fun _ => rfl) (fun _ => rfl) ?_
        exact jL_law_770 hE rl708 hr708 rl728 hr728 σ _ A0 A1 A2 A3 x4 x7 x8 x9 x11 o308 (1 : Int32) h
noncomputable def FL_law_728 (L : Nat) (xs : Nat → Int32) (rl708 : Mem → Nat → (Nat → Int32) → (Nat → Int32) → (Nat → Int32) → (Nat → Int64) → Int32 → Int32 → Option (Int32)) (fu : Nat) : Mem → Nat → (Nat → Int32) → (Nat → Int32) → (Nat → Int32) → (Nat → Int64) → Int32 → Int32 → Int32 → Int32 → Int32 → Int32 → Option (Int32) :=
  Nat.rec (fun _ _ _ _ _ _ _ _ _ _ _ _ => none) (fun _ ih => BL_law_728 L xs rl708 ih) fu
theorem lL_law_728 {Y : QX} {out : Int32} (hE : ∀ σ2 : Mem, EndQ Y mL_law .ireturn [] (some σ2) [] (fun _ => [.int out])) (rl708 : Mem → Nat → (Nat → Int32) → (Nat → Int32) → (Nat → Int32) → (Nat → Int64) → Int32 → Int32 → Option (Int32)) (hr708 : ∀ (σ : Mem) (n : Nat) (A0 : Nat → Int32) (A1 : Nat → Int32) (A2 : Nat → Int32) (A3 : Nat → Int64) (x4 : Int32) (x7 : Int32), rl708 σ n A0 A1 A2 A3 x4 x7 = some out → JQ Y mL_law (some σ) [] [.inl (24, A0), .inl (36, A1), .inl (6, A2), .inr (3, A3)] n 708 (fun b => [(0, .ref (qb Y)), (1, .ref (xad (qX Y) 0)), (2, .ref (b 0)), (3, .ref (b 1)), (4, .int x4), (5, .ref (b 2)), (6, .ref (b 3)), (7, .int x7)]) (fun _ => [])) : ∀ (fu : Nat) (σ : Mem) (n : Nat) (A0 : Nat → Int32) (A1 : Nat → Int32) (A2 : Nat → Int32) (A3 : Nat → Int64) (x4 : Int32) (x7 : Int32) (x8 : Int32) (x9 : Int32) (x10 : Int32) (x11 : Int32), FL_law_728 (qL Y) (qs Y) rl708 fu σ n A0 A1 A2 A3 x4 x7 x8 x9 x10 x11 = some out → JQ Y mL_law (some σ) [] [.inl (24, A0), .inl (36, A1), .inl (6, A2), .inr (3, A3)] n 728 (fun b => [(0, .ref (qb Y)), (1, .ref (xad (qX Y) 0)), (2, .ref (b 0)), (3, .ref (b 1)), (4, .int x4), (5, .ref (b 2)), (6, .ref (b 3)), (7, .int x7), (8, .int x8), (9, .int x9), (10, .int x10), (11, .int x11)]) (fun _ => []) := by
  intro fu
  induction fu with
  | zero => intro σ n A0 A1 A2 A3 x4 x7 x8 x9 x10 x11 h; exact nn h
  | succ fu ih => intro σ n A0 A1 A2 A3 x4 x7 x8 x9 x10 x11 h; exact jL_law_728 hE rl708 hr708 (FL_law_728 (qL Y) (qs Y) rl708 fu) ih σ n A0 A1 A2 A3 x4 x7 x8 x9 x10 x11 h
noncomputable def BL_law_708 (L : Nat) (xs : Nat → Int32) (rl708 : Mem → Nat → (Nat → Int32) → (Nat → Int32) → (Nat → Int32) → (Nat → Int64) → Int32 → Int32 → Option (Int32)) (σ : Mem) (n : Nat) (A0 : Nat → Int32) (A1 : Nat → Int32) (A2 : Nat → Int32) (A3 : Nat → Int64) (x4 : Int32) (x7 : Int32) : Option (Int32) :=
  if (2 : Int32) ≤ x7 then
  (if x4 ≤ 0 then
  (FL_law_982 L xs σ n A0 A1 A2 A3 x4 (0 : Int32))
  else
  (bn (FL_cell L xs (8 : Int32)) fun o310 =>
  bn (FL_low o310 x4) fun o311 =>
  FL_law_982 L xs σ n A0 A1 A2 A3 x4 o311))
  else
  (FL_law_728 L xs rl708 FU σ n A0 A1 A2 A3 x4 x7 (-9 : Int32) (-9 : Int32) (0 : Int32) (0 : Int32))
set_option maxHeartbeats 4000000 in
set_option maxRecDepth 100000 in
theorem jL_law_708 {Y : QX} {out : Int32} (hE : ∀ σ2 : Mem, EndQ Y mL_law .ireturn [] (some σ2) [] (fun _ => [.int out])) (rl708 : Mem → Nat → (Nat → Int32) → (Nat → Int32) → (Nat → Int32) → (Nat → Int64) → Int32 → Int32 → Option (Int32)) (hr708 : ∀ (σ : Mem) (n : Nat) (A0 : Nat → Int32) (A1 : Nat → Int32) (A2 : Nat → Int32) (A3 : Nat → Int64) (x4 : Int32) (x7 : Int32), rl708 σ n A0 A1 A2 A3 x4 x7 = some out → JQ Y mL_law (some σ) [] [.inl (24, A0), .inl (36, A1), .inl (6, A2), .inr (3, A3)] n 708 (fun b => [(0, .ref (qb Y)), (1, .ref (xad (qX Y) 0)), (2, .ref (b 0)), (3, .ref (b 1)), (4, .int x4), (5, .ref (b 2)), (6, .ref (b 3)), (7, .int x7)]) (fun _ => [])) (σ : Mem) (n : Nat) (A0 : Nat → Int32) (A1 : Nat → Int32) (A2 : Nat → Int32) (A3 : Nat → Int64) (x4 : Int32) (x7 : Int32) (h : BL_law_708 (qL Y) (qs Y) rl708 σ n A0 A1 A2 A3 x4 x7 = some out) : JQ Y mL_law (some σ) [] [.inl (24, A0), .inl (36, A1), .inl (6, A2), .inr (3, A3)] n 708 (fun b => [(0, .ref (qb Y)), (1, .ref (xad (qX Y) 0)), (2, .ref (b 0)), (3, .ref (b 1)), (4, .int x4), (5, .ref (b 2)), (6, .ref (b 3)), (7, .int x7)]) (fun _ => []) := by
  refine q_iload 7 dL_law_708 rfl (fun _ => rfl) ?_
  refine q_iconst dL_law_710 rfl ki_2 ?_
  refine q_icmp_ge dL_law_711 rfl rfl h (fun c h => ?_) (fun c h => ?_)
  · refine q_iload 4 dL_law_962 rfl (fun _ => rfl) ?_
    refine q_if_le dL_law_964 rfl rfl h (fun c h => ?_) (fun c h => ?_)
    · refine q_iconst dL_law_981 rfl ki_0 ?_
      refine q_sub [0, 1, 2, 3, 4, 5, 6] (fun b => [(0, .ref (qb Y)), (1, .ref (xad (qX Y) 0)), (2, .ref (b 0)), (3, .ref (b 1)), (4, .int x4), (5, .ref (b 2)), (6, .ref (b 3))]) (fun _ => rfl) ?_
      exact jL_law_982 hE σ _ A0 A1 A2 A3 x4 (0 : Int32) h
    · refine q_aload_n 0 (fun _ => qb Y) dL_law_967 rfl rfl (fun _ => rfl) ?_
      refine q_bipush dL_law_968 rfl kb_8 ?_
      obtain ⟨o310, hc, h⟩ := bn_of h
      refine q_call [.inl (24, A0), .inl (36, A1), .inl (6, A2), .inr (3, A3)] 4 (fun _ => [.ref (qb Y), .int (8 : Int32)]) (fun _ => []) (coL_cell (qL Y) (qs Y) (8 : Int32) o310 hc) rfl rfl rfl ms_RL_9 (by decide) (Or.inl rfl) (fun _ => rfl) (fun _ => rfl) (fun _ => rfl) (fun _ => Nat.le_of_ble_eq_true rfl) dL_law_970 rfl ?_
      show JQ Y mL_law (some σ) [] [.inl (24, A0), .inl (36, A1), .inl (6, A2), .inr (3, A3)] _ 973 (fun b => [(0, .ref (qb Y)), (1, .ref (xad (qX Y) 0)), (2, .ref (b 0)), (3, .ref (b 1)), (4, .int x4), (5, .ref (b 2)), (6, .ref (b 3)), (7, .int x7)]) (fun _ => [.int o310])
      refine q_iload 4 dL_law_973 rfl (fun _ => rfl) ?_
      obtain ⟨o311, hc, h⟩ := bn_of h
      refine q_call [.inl (24, A0), .inl (36, A1), .inl (6, A2), .inr (3, A3)] 4 (fun _ => [.int o310, .int x4]) (fun _ => []) (coL_low o310 x4 o311 hc) rfl rfl rfl ms_RL_15 (by decide) (Or.inl rfl) (fun _ => rfl) (fun _ => rfl) (fun _ => rfl) (fun _ => Nat.le_of_ble_eq_true rfl) dL_law_975 rfl ?_
      show JQ Y mL_law (some σ) [] [.inl (24, A0), .inl (36, A1), .inl (6, A2), .inr (3, A3)] _ 978 (fun b => [(0, .ref (qb Y)), (1, .ref (xad (qX Y) 0)), (2, .ref (b 0)), (3, .ref (b 1)), (4, .int x4), (5, .ref (b 2)), (6, .ref (b 3)), (7, .int x7)]) (fun _ => [.int o311])
      refine q_goto dL_law_978 rfl ?_
      refine q_sub [0, 1, 2, 3, 4, 5, 6] (fun b => [(0, .ref (qb Y)), (1, .ref (xad (qX Y) 0)), (2, .ref (b 0)), (3, .ref (b 1)), (4, .int x4), (5, .ref (b 2)), (6, .ref (b 3))]) (fun _ => rfl) ?_
      exact jL_law_982 hE σ _ A0 A1 A2 A3 x4 o311 h
  · refine q_bipush dL_law_714 rfl kb_m9 ?_
    refine q_istoreV (fun b => [(8, .int (-9 : Int32)), (0, .ref (qb Y)), (1, .ref (xad (qX Y) 0)), (2, .ref (b 0)), (3, .ref (b 1)), (4, .int x4), (5, .ref (b 2)), (6, .ref (b 3)), (7, .int x7)]) dL_law_716 rfl (show 8 < 27 by decide) (fun _ => rfl) ?_
    refine q_bipush dL_law_718 rfl kb_m9 ?_
    refine q_istoreV (fun b => [(9, .int (-9 : Int32)), (8, .int (-9 : Int32)), (0, .ref (qb Y)), (1, .ref (xad (qX Y) 0)), (2, .ref (b 0)), (3, .ref (b 1)), (4, .int x4), (5, .ref (b 2)), (6, .ref (b 3)), (7, .int x7)]) dL_law_720 rfl (show 9 < 27 by decide) (fun _ => rfl) ?_
    refine q_iconst dL_law_722 rfl ki_0 ?_
    refine q_istoreV (fun b => [(10, .int (0 : Int32)), (9, .int (-9 : Int32)), (8, .int (-9 : Int32)), (0, .ref (qb Y)), (1, .ref (xad (qX Y) 0)), (2, .ref (b 0)), (3, .ref (b 1)), (4, .int x4), (5, .ref (b 2)), (6, .ref (b 3)), (7, .int x7)]) dL_law_723 rfl (show 10 < 27 by decide) (fun _ => rfl) ?_
    refine q_iconst dL_law_725 rfl ki_0 ?_
    refine q_istoreV (fun b => [(11, .int (0 : Int32)), (10, .int (0 : Int32)), (9, .int (-9 : Int32)), (8, .int (-9 : Int32)), (0, .ref (qb Y)), (1, .ref (xad (qX Y) 0)), (2, .ref (b 0)), (3, .ref (b 1)), (4, .int x4), (5, .ref (b 2)), (6, .ref (b 3)), (7, .int x7)]) dL_law_726 rfl (show 11 < 27 by decide) (fun _ => rfl) ?_
    refine q_sub [4, 5, 6, 7, 8, 9, 10, 11, 3, 2, 1, 0] (fun b => [(0, .ref (qb Y)), (1, .ref (xad (qX Y) 0)), (2, .ref (b 0)), (3, .ref (b 1)), (4, .int x4), (5, .ref (b 2)), (6, .ref (b 3)), (7, .int x7), (8, .int (-9 : Int32)), (9, .int (-9 : Int32)), (10, .int (0 : Int32)), (11, .int (0 : Int32))]) (fun _ => rfl) ?_
    exact lL_law_728 hE rl708 hr708 FU σ _ A0 A1 A2 A3 x4 x7 (-9 : Int32) (-9 : Int32) (0 : Int32) (0 : Int32) h
noncomputable def FL_law_708 (L : Nat) (xs : Nat → Int32) (fu : Nat) : Mem → Nat → (Nat → Int32) → (Nat → Int32) → (Nat → Int32) → (Nat → Int64) → Int32 → Int32 → Option (Int32) :=
  Nat.rec (fun _ _ _ _ _ _ _ _ => none) (fun _ ih => BL_law_708 L xs ih) fu
theorem lL_law_708 {Y : QX} {out : Int32} (hE : ∀ σ2 : Mem, EndQ Y mL_law .ireturn [] (some σ2) [] (fun _ => [.int out])) : ∀ (fu : Nat) (σ : Mem) (n : Nat) (A0 : Nat → Int32) (A1 : Nat → Int32) (A2 : Nat → Int32) (A3 : Nat → Int64) (x4 : Int32) (x7 : Int32), FL_law_708 (qL Y) (qs Y) fu σ n A0 A1 A2 A3 x4 x7 = some out → JQ Y mL_law (some σ) [] [.inl (24, A0), .inl (36, A1), .inl (6, A2), .inr (3, A3)] n 708 (fun b => [(0, .ref (qb Y)), (1, .ref (xad (qX Y) 0)), (2, .ref (b 0)), (3, .ref (b 1)), (4, .int x4), (5, .ref (b 2)), (6, .ref (b 3)), (7, .int x7)]) (fun _ => []) := by
  intro fu
  induction fu with
  | zero => intro σ n A0 A1 A2 A3 x4 x7 h; exact nn h
  | succ fu ih => intro σ n A0 A1 A2 A3 x4 x7 h; exact jL_law_708 hE (FL_law_708 (qL Y) (qs Y) fu) ih σ n A0 A1 A2 A3 x4 x7 h
noncomputable def FL_law_677 (L : Nat) (xs : Nat → Int32) (rl191 : Mem → Nat → (Nat → Int32) → (Nat → Int32) → (Nat → Int32) → (Nat → Int64) → Int32 → Int32 → Option (Int32)) (σ : Mem) (n : Nat) (A0 : Nat → Int32) (A1 : Nat → Int32) (A2 : Nat → Int32) (A3 : Nat → Int64) (x4 : Int32) (x7 : Int32) (x11 : Int32) (s0 : Int32) (s1 : Int32) : Option (Int32) :=
  bi (FX8_fewest σ s1 s0) fun r312 σ313 =>
  if x11 = (-5 : Int32) then
  (if r312 = (-5 : Int32) then
  (nm (x7 + (1 : Int32)) fun x_315 =>
  rl191 σ313 n A0 A1 A2 A3 x4 x_315)
  else
  (some (0 : Int32)))
  else
  (if r312 = (-9 : Int32) then
  (nm (x7 + (1 : Int32)) fun x_314 =>
  rl191 σ313 n A0 A1 A2 A3 x4 x_314)
  else
  (some (0 : Int32)))
set_option maxHeartbeats 4000000 in
set_option maxRecDepth 100000 in
theorem jL_law_677 {Y : QX} {out : Int32} (hE : ∀ σ2 : Mem, EndQ Y mL_law .ireturn [] (some σ2) [] (fun _ => [.int out])) (rl191 : Mem → Nat → (Nat → Int32) → (Nat → Int32) → (Nat → Int32) → (Nat → Int64) → Int32 → Int32 → Option (Int32)) (hr191 : ∀ (σ : Mem) (n : Nat) (A0 : Nat → Int32) (A1 : Nat → Int32) (A2 : Nat → Int32) (A3 : Nat → Int64) (x4 : Int32) (x7 : Int32), rl191 σ n A0 A1 A2 A3 x4 x7 = some out → JQ Y mL_law (some σ) [] [.inl (24, A0), .inl (36, A1), .inl (6, A2), .inr (3, A3)] n 191 (fun b => [(0, .ref (qb Y)), (1, .ref (xad (qX Y) 0)), (2, .ref (b 0)), (3, .ref (b 1)), (4, .int x4), (5, .ref (b 2)), (6, .ref (b 3)), (7, .int x7)]) (fun _ => [])) (σ : Mem) (n : Nat) (A0 : Nat → Int32) (A1 : Nat → Int32) (A2 : Nat → Int32) (A3 : Nat → Int64) (x4 : Int32) (x7 : Int32) (x11 : Int32) (s0 : Int32) (s1 : Int32) (h : FL_law_677 (qL Y) (qs Y) rl191 σ n A0 A1 A2 A3 x4 x7 x11 s0 s1 = some out) : JQ Y mL_law (some σ) [] [.inl (24, A0), .inl (36, A1), .inl (6, A2), .inr (3, A3)] n 677 (fun b => [(0, .ref (qb Y)), (1, .ref (xad (qX Y) 0)), (2, .ref (b 0)), (3, .ref (b 1)), (4, .int x4), (5, .ref (b 2)), (6, .ref (b 3)), (7, .int x7), (11, .int x11)]) (fun _ => [.int s0, .int s1, .ref (xad (qX Y) 0)]) := by
  obtain ⟨r312, σ313, hc, h⟩ := bi_of h
  refine q_callX [.int s1, .int s0] [] (coX8_fewest σ s1 s0 r312 σ313 hc) mv_RL_53 (by decide) rfl rfl (fun _ => rfl) (Nat.le_of_ble_eq_true rfl) dL_law_677 rfl ?_
  refine q_iload 8 dL_law_680 rfl (fun _ => rfl) ?_
  refine q_bipush dL_law_682 rfl kb_m5 ?_
  refine q_icmp_ne dL_law_684 rfl rfl h (fun c h => ?_) (fun c h => ?_)
  · refine q_bipush dL_law_692 rfl kb_m9 ?_
    refine q_icmp_eq dL_law_694 rfl rfl h (fun c h => ?_) (fun c h => ?_)
    · refine q_iinc 7 (fun x_314 => (fun b => [(7, .int x_314), (0, .ref (qb Y)), (1, .ref (xad (qX Y) 0)), (2, .ref (b 0)), (3, .ref (b 1)), (4, .int x4), (5, .ref (b 2)), (6, .ref (b 3)), (11, .int x11)])) dL_law_699 rfl (fun _ => rfl) ki_1 (show 7 < 27 by decide) (fun _ _ => rfl) h (fun x_314 h => ?_)
      refine q_goto dL_law_702 rfl ?_
      refine q_sub [1, 2, 3, 4, 5, 6, 7, 0] (fun b => [(0, .ref (qb Y)), (1, .ref (xad (qX Y) 0)), (2, .ref (b 0)), (3, .ref (b 1)), (4, .int x4), (5, .ref (b 2)), (6, .ref (b 3)), (7, .int x_314)]) (fun _ => rfl) ?_
      exact hr191 σ313 _ A0 A1 A2 A3 x4 x_314 h
    · refine q_iconst dL_law_697 rfl ki_0 ?_
      refine q_sub [0, 1, 4, 7, 8] (fun _ => [(0, .ref (qb Y)), (1, .ref (xad (qX Y) 0)), (4, .int x4), (7, .int x7), (11, .int x11)]) (fun _ => rfl) ?_
      refine q_pick [] [] [] (fun _ => [(0, .ref (qb Y)), (1, .ref (xad (qX Y) 0)), (4, .int x4), (7, .int x7), (11, .int x11)]) (fun _ => [.int (0 : Int32)]) rfl rfl (by decide) rfl (fun _ => rfl) (fun _ => rfl) ?_
      cases h
      exact hE _ _ _ _ dL_law_698
  · refine q_bipush dL_law_687 rfl kb_m5 ?_
    refine q_goto dL_law_689 rfl ?_
    refine q_icmp_eq dL_law_694 rfl rfl h (fun c h => ?_) (fun c h => ?_)
    · refine q_iinc 7 (fun x_315 => (fun b => [(7, .int x_315), (0, .ref (qb Y)), (1, .ref (xad (qX Y) 0)), (2, .ref (b 0)), (3, .ref (b 1)), (4, .int x4), (5, .ref (b 2)), (6, .ref (b 3)), (11, .int x11)])) dL_law_699 rfl (fun _ => rfl) ki_1 (show 7 < 27 by decide) (fun _ _ => rfl) h (fun x_315 h => ?_)
      refine q_goto dL_law_702 rfl ?_
      refine q_sub [1, 2, 3, 4, 5, 6, 7, 0] (fun b => [(0, .ref (qb Y)), (1, .ref (xad (qX Y) 0)), (2, .ref (b 0)), (3, .ref (b 1)), (4, .int x4), (5, .ref (b 2)), (6, .ref (b 3)), (7, .int x_315)]) (fun _ => rfl) ?_
      exact hr191 σ313 _ A0 A1 A2 A3 x4 x_315 h
    · refine q_iconst dL_law_697 rfl ki_0 ?_
      refine q_sub [0, 1, 4, 7, 8] (fun _ => [(0, .ref (qb Y)), (1, .ref (xad (qX Y) 0)), (4, .int x4), (7, .int x7), (11, .int x11)]) (fun _ => rfl) ?_
      refine q_pick [] [] [] (fun _ => [(0, .ref (qb Y)), (1, .ref (xad (qX Y) 0)), (4, .int x4), (7, .int x7), (11, .int x11)]) (fun _ => [.int (0 : Int32)]) rfl rfl (by decide) rfl (fun _ => rfl) (fun _ => rfl) ?_
      cases h
      exact hE _ _ _ _ dL_law_698

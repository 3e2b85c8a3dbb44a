noncomputable def FL_law_1571 (L : Nat) (xs : Nat → Int32) (rl1488 : Mem → Nat → (Nat → Int32) → (Nat → Int32) → (Nat → Int32) → (Nat → Int64) → Int32 → Int32 → Option (Int32)) (rl1533 : Mem → Nat → (Nat → Int32) → (Nat → Int32) → (Nat → Int32) → (Nat → Int64) → Int32 → Int32 → Int32 → Int32 → Int32 → Int32 → Int32 → Int32 → Option (Int32)) (rl1558 : Mem → Nat → (Nat → Int32) → (Nat → Int32) → (Nat → Int32) → (Nat → Int64) → Int32 → Int32 → Int32 → Int32 → Int32 → Int32 → Int32 → Int32 → Int32 → Option (Int32)) (σ : Mem) (n : Nat) (A0 : Nat → Int32) (A1 : Nat → Int32) (A2 : Nat → Int32) (A3 : Nat → Int64) (x4 : Int32) (x13 : Int32) (x14 : Int32) (x15 : Int32) (x16 : Int32) (x17 : Int32) (x18 : Int32) (x19 : Int32) (x20 : Int32) (s0 : Int32) (s1 : Int32) : Option (Int32) :=
  if s0 ≤ s1 then
  (nm (x19 + (1 : Int32)) fun x_227 =>
  rl1533 σ n A0 A1 A2 A3 x4 x13 x14 x15 x16 x17 x18 x_227)
  else
  (if x19 < 0 then
  (FL_law_1590 L xs rl1488 rl1533 rl1558 σ n A0 A1 A2 A3 x4 x13 x14 x15 x16 x17 x18 x19 x20)
  else
  (bz (FL_free A1 A2 x19) fun o228 =>
  if o228 = 0 then
  (FL_law_1611 L xs rl1488 rl1533 rl1558 σ n A0 A1 A2 A3 x4 x13 x14 x15 x16 x17 x18 x19 x20 (0 : Int32))
  else
  (FL_law_1590 L xs rl1488 rl1533 rl1558 σ n A0 A1 A2 A3 x4 x13 x14 x15 x16 x17 x18 x19 x20)))
set_option maxHeartbeats 4000000 in
set_option maxRecDepth 100000 in
theorem jL_law_1571 {Y : QX} {out : Int32} (hE : ∀ σ2 : Mem, EndQ Y mL_law .ireturn [] (some σ2) [] (fun _ => [.int out])) (rl1488 : Mem → Nat → (Nat → Int32) → (Nat → Int32) → (Nat → Int32) → (Nat → Int64) → Int32 → Int32 → Option (Int32)) (hr1488 : ∀ (σ : Mem) (n : Nat) (A0 : Nat → Int32) (A1 : Nat → Int32) (A2 : Nat → Int32) (A3 : Nat → Int64) (x4 : Int32) (x13 : Int32), rl1488 σ n A0 A1 A2 A3 x4 x13 = some out → JQ Y mL_law (some σ) [] [.inl (24, A0), .inl (36, A1), .inl (6, A2), .inr (3, A3)] n 1488 (fun b => [(0, .ref (qb Y)), (1, .ref (xad (qX Y) 0)), (2, .ref (b 0)), (3, .ref (b 1)), (4, .int x4), (5, .ref (b 2)), (6, .ref (b 3)), (13, .int x13)]) (fun _ => [])) (rl1533 : Mem → Nat → (Nat → Int32) → (Nat → Int32) → (Nat → Int32) → (Nat → Int64) → Int32 → Int32 → Int32 → Int32 → Int32 → Int32 → Int32 → Int32 → Option (Int32)) (hr1533 : ∀ (σ : Mem) (n : Nat) (A0 : Nat → Int32) (A1 : Nat → Int32) (A2 : Nat → Int32) (A3 : Nat → Int64) (x4 : Int32) (x13 : Int32) (x14 : Int32) (x15 : Int32) (x16 : Int32) (x17 : Int32) (x18 : Int32) (x19 : Int32), rl1533 σ n A0 A1 A2 A3 x4 x13 x14 x15 x16 x17 x18 x19 = some out → JQ Y mL_law (some σ) [] [.inl (24, A0), .inl (36, A1), .inl (6, A2), .inr (3, A3)] n 1533 (fun b => [(0, .ref (qb Y)), (1, .ref (xad (qX Y) 0)), (2, .ref (b 0)), (3, .ref (b 1)), (4, .int x4), (5, .ref (b 2)), (6, .ref (b 3)), (13, .int x13), (14, .int x14), (15, .int x15), (16, .int x16), (17, .int x17), (18, .int x18), (19, .int x19)]) (fun _ => [])) (rl1558 : Mem → Nat → (Nat → Int32) → (Nat → Int32) → (Nat → Int32) → (Nat → Int64) → Int32 → Int32 → Int32 → Int32 → Int32 → Int32 → Int32 → Int32 → Int32 → Option (Int32)) (hr1558 : ∀ (σ : Mem) (n : Nat) (A0 : Nat → Int32) (A1 : Nat → Int32) (A2 : Nat → Int32) (A3 : Nat → Int64) (x4 : Int32) (x13 : Int32) (x14 : Int32) (x15 : Int32) (x16 : Int32) (x17 : Int32) (x18 : Int32) (x19 : Int32) (x20 : Int32), rl1558 σ n A0 A1 A2 A3 x4 x13 x14 x15 x16 x17 x18 x19 x20 = some out → JQ Y mL_law (some σ) [] [.inl (24, A0), .inl (36, A1), .inl (6, A2), .inr (3, A3)] n 1558 (fun b => [(0, .ref (qb Y)), (1, .ref (xad (qX Y) 0)), (2, .ref (b 0)), (3, .ref (b 1)), (4, .int x4), (5, .ref (b 2)), (6, .ref (b 3)), (13, .int x13), (14, .int x14), (15, .int x15), (16, .int x16), (17, .int x17), (18, .int x18), (19, .int x19), (20, .int x20)]) (fun _ => [])) (σ : Mem) (n : Nat) (A0 : Nat → Int32) (A1 : Nat → Int32) (A2 : Nat → Int32) (A3 : Nat → Int64) (x4 : Int32) (x13 : Int32) (x14 : Int32) (x15 : Int32) (x16 : Int32) (x17 : Int32) (x18 : Int32) (x19 : Int32) (x20 : Int32) (s0 : Int32) (s1 : Int32) (h : FL_law_1571 (qL Y) (qs Y) rl1488 rl1533 rl1558 σ n A0 A1 A2 A3 x4 x13 x14 x15 x16 x17 x18 x19 x20 s0 s1 = some out) : JQ Y mL_law (some σ) [] [.inl (24, A0), .inl (36, A1), .inl (6, A2), .inr (3, A3)] n 1571 (fun b => [(0, .ref (qb Y)), (1, .ref (xad (qX Y) 0)), (2, .ref (b 0)), (3, .ref (b 1)), (4, .int x4), (5, .ref (b 2)), (6, .ref (b 3)), (13, .int x13), (14, .int x14), (15, .int x15), (16, .int x16), (17, .int x17), (18, .int x18), (19, .int x19), (20, .int x20)]) (fun _ => [.int s0, .int s1]) := by
  refine q_icmp_ge dL_law_1571 rfl rfl h (fun c h => ?_) (fun c h => ?_)
  · refine q_iinc 13 (fun x_227 => (fun b => [(19, .int x_227), (0, .ref (qb Y)), (1, .ref (xad (qX Y) 0)), (2, .ref (b 0)), (3, .ref (b 1)), (4, .int x4), (5, .ref (b 2)), (6, .ref (b 3)), (13, .int x13), (14, .int x14), (15, .int x15), (16, .int x16), (17, .int x17), (18, .int x18), (20, .int x20)])) dL_law_1811 rfl (fun _ => rfl) ki_1 (show 19 < 27 by decide) (fun _ _ => rfl) h (fun x_227 h => ?_)
    refine q_goto dL_law_1814 rfl ?_
    refine q_sub [1, 2, 3, 4, 5, 6, 7, 8, 9, 10, 11, 12, 13, 0] (fun b => [(0, .ref (qb Y)), (1, .ref (xad (qX Y) 0)), (2, .ref (b 0)), (3, .ref (b 1)), (4, .int x4), (5, .ref (b 2)), (6, .ref (b 3)), (13, .int x13), (14, .int x14), (15, .int x15), (16, .int x16), (17, .int x17), (18, .int x18), (19, .int x_227)]) (fun _ => rfl) ?_
    exact hr1533 σ _ A0 A1 A2 A3 x4 x13 x14 x15 x16 x17 x18 x_227 h
  · refine q_iload 13 dL_law_1574 rfl (fun _ => rfl) ?_
    refine q_if_lt dL_law_1576 rfl rfl h (fun c h => ?_) (fun c h => ?_)
    · exact jL_law_1590 hE rl1488 hr1488 rl1533 hr1533 rl1558 hr1558 σ _ A0 A1 A2 A3 x4 x13 x14 x15 x16 x17 x18 x19 x20 h
    · refine q_aload_n 3 (fun b => b 1) dL_law_1579 rfl rfl (fun _ => rfl) ?_
      refine q_aload 5 (fun b => b 2) dL_law_1580 rfl (fun _ => rfl) ?_
      refine q_iload 13 dL_law_1582 rfl (fun _ => rfl) ?_
      refine q_pick [0, 3, 1, 2] [.inl (24, A0), .inr (3, A3), .inl (36, A1), .inl (6, A2)] [] (fun b => [(0, .ref (qb Y)), (1, .ref (xad (qX Y) 0)), (2, .ref (b 0)), (3, .ref (b 2)), (4, .int x4), (5, .ref (b 3)), (6, .ref (b 1)), (13, .int x13), (14, .int x14), (15, .int x15), (16, .int x16), (17, .int x17), (18, .int x18), (19, .int x19), (20, .int x20)]) (fun b => [.int x19, .ref (b 3), .ref (b 2)]) rfl rfl (by decide) rfl (fun _ => rfl) (fun _ => rfl) ?_
      obtain ⟨o228, hc, hz, h⟩ := bz_of h
      refine q_call [.inl (24, A0), .inr (3, A3)] 2 (fun b => [.ref (b 2), .ref (b 3), .int x19]) (fun _ => []) (coL_free A1 A2 x19 o228 hc hz) rfl rfl rfl ms_RL_77 (by decide) (Or.inl rfl) (fun _ => rfl) (fun _ => rfl) (fun _ => rfl) (fun _ => Nat.le_of_ble_eq_true rfl) dL_law_1584 rfl ?_
      show JQ Y mL_law (some σ) [] [.inl (24, A0), .inr (3, A3), .inl (36, A1), .inl (6, A2)] _ 1587 (fun b => [(0, .ref (qb Y)), (1, .ref (xad (qX Y) 0)), (2, .ref (b 0)), (3, .ref (b 2)), (4, .int x4), (5, .ref (b 3)), (6, .ref (b 1)), (13, .int x13), (14, .int x14), (15, .int x15), (16, .int x16), (17, .int x17), (18, .int x18), (19, .int x19), (20, .int x20)]) (fun _ => [.int o228])
      refine q_if_eq dL_law_1587 rfl rfl h (fun c h => ?_) (fun c h => ?_)
      · refine q_iconst dL_law_1610 rfl ki_0 ?_
        refine q_pick [0, 2, 3, 1] [.inl (24, A0), .inl (36, A1), .inl (6, A2), .inr (3, A3)] [] (fun b => [(0, .ref (qb Y)), (1, .ref (xad (qX Y) 0)), (2, .ref (b 0)), (3, .ref (b 1)), (4, .int x4), (5, .ref (b 2)), (6, .ref (b 3)), (13, .int x13), (14, .int x14), (15, .int x15), (16, .int x16), (17, .int x17), (18, .int x18), (19, .int x19), (20, .int x20)]) (fun _ => [.int (0 : Int32)]) rfl rfl (by decide) rfl (fun _ => rfl) (fun _ => rfl) ?_
        exact jL_law_1611 hE rl1488 hr1488 rl1533 hr1533 rl1558 hr1558 σ _ A0 A1 A2 A3 x4 x13 x14 x15 x16 x17 x18 x19 x20 (0 : Int32) h
      · refine q_pick [0, 2, 3, 1] [.inl (24, A0), .inl (36, A1), .inl (6, A2), .inr (3, A3)] [] (fun b => [(0, .ref (qb Y)), (1, .ref (xad (qX Y) 0)), (2, .ref (b 0)), (3, .ref (b 1)), (4, .int x4), (5, .ref (b 2)), (6, .ref (b 3)), (13, .int x13), (14, .int x14), (15, .int x15), (16, .int x16), (17, .int x17), (18, .int x18), (19, .int x19), (20, .int x20)]) (fun _ => []) rfl rfl (by decide) rfl (fun _ => rfl) (fun _ => rfl) ?_
        exact jL_law_1590 hE rl1488 hr1488 rl1533 hr1533 rl1558 hr1558 σ _ A0 A1 A2 A3 x4 x13 x14 x15 x16 x17 x18 x19 x20 h
noncomputable def BL_law_1558 (L : Nat) (xs : Nat → Int32) (rl1488 : Mem → Nat → (Nat → Int32) → (Nat → Int32) → (Nat → Int32) → (Nat → Int64) → Int32 → Int32 → Option (Int32)) (rl1533 : Mem → Nat → (Nat → Int32) → (Nat → Int32) → (Nat → Int32) → (Nat → Int64) → Int32 → Int32 → Int32 → Int32 → Int32 → Int32 → Int32 → Int32 → Option (Int32)) (rl1558 : Mem → Nat → (Nat → Int32) → (Nat → Int32) → (Nat → Int32) → (Nat → Int64) → Int32 → Int32 → Int32 → Int32 → Int32 → Int32 → Int32 → Int32 → Int32 → Option (Int32)) (σ : Mem) (n : Nat) (A0 : Nat → Int32) (A1 : Nat → Int32) (A2 : Nat → Int32) (A3 : Nat → Int64) (x4 : Int32) (x13 : Int32) (x14 : Int32) (x15 : Int32) (x16 : Int32) (x17 : Int32) (x18 : Int32) (x19 : Int32) (x20 : Int32) : Option (Int32) :=
  if 0 ≤ x19 then
  (FL_law_1571 L xs rl1488 rl1533 rl1558 σ n A0 A1 A2 A3 x4 x13 x14 x15 x16 x17 x18 x19 x20 x15 x20)
  else
  (FL_law_1571 L xs rl1488 rl1533 rl1558 σ n A0 A1 A2 A3 x4 x13 x14 x15 x16 x17 x18 x19 x20 (0 : Int32) x20)
set_option maxHeartbeats 4000000 in
set_option maxRecDepth 100000 in
theorem jL_law_1558 {Y : QX} {out : Int32} (hE : ∀ σ2 : Mem, EndQ Y mL_law .ireturn [] (some σ2) [] (fun _ => [.int out])) (rl1488 : Mem → Nat → (Nat → Int32) → (Nat → Int32) → (Nat → Int32) → (Nat → Int64) → Int32 → Int32 → Option (Int32)) (hr1488 : ∀ (σ : Mem) (n : Nat) (A0 : Nat → Int32) (A1 : Nat → Int32) (A2 : Nat → Int32) (A3 : Nat → Int64) (x4 : Int32) (x13 : Int32), rl1488 σ n A0 A1 A2 A3 x4 x13 = some out → JQ Y mL_law (some σ) [] [.inl (24, A0), .inl (36, A1), .inl (6, A2), .inr (3, A3)] n 1488 (fun b => [(0, .ref (qb Y)), (1, .ref (xad (qX Y) 0)), (2, .ref (b 0)), (3, .ref (b 1)), (4, .int x4), (5, .ref (b 2)), (6, .ref (b 3)), (13, .int x13)]) (fun _ => [])) (rl1533 : Mem → Nat → (Nat → Int32) → (Nat → Int32) → (Nat → Int32) → (Nat → Int64) → Int32 → Int32 → Int32 → Int32 → Int32 → Int32 → Int32 → Int32 → Option (Int32)) (hr1533 : ∀ (σ : Mem) (n : Nat) (A0 : Nat → Int32) (A1 : Nat → Int32) (A2 : Nat → Int32) (A3 : Nat → Int64) (x4 : Int32) (x13 : Int32) (x14 : Int32) (x15 : Int32) (x16 : Int32) (x17 : Int32) (x18 : Int32) (x19 : Int32), rl1533 σ n A0 A1 A2 A3 x4 x13 x14 x15 x16 x17 x18 x19 = some out → JQ Y mL_law (some σ) [] [.inl (24, A0), .inl (36, A1), .inl (6, A2), .inr (3, A3)] n 1533 (fun b => [(0, .ref (qb Y)), (1, .ref (xad (qX Y) 0)), (2, .ref (b 0)), (3, .ref (b 1)), (4, .int x4), (5, .ref (b 2)), (6, .ref (b 3)), (13, .int x13), (14, .int x14), (15, .int x15), (16, .int x16), (17, .int x17), (18, .int x18), (19, .int x19)]) (fun _ => [])) (rl1558 : Mem → Nat → (Nat → Int32) → (Nat → Int32) → (Nat → Int32) → (Nat → Int64) → Int32 → Int32 → Int32 → Int32 → Int32 → Int32 → Int32 → Int32 → Int32 → Option (Int32)) (hr1558 : ∀ (σ : Mem) (n : Nat) (A0 : Nat → Int32) (A1 : Nat → Int32) (A2 : Nat → Int32) (A3 : Nat → Int64) (x4 : Int32) (x13 : Int32) (x14 : Int32) (x15 : Int32) (x16 : Int32) (x17 : Int32) (x18 : Int32) (x19 : Int32) (x20 : Int32), rl1558 σ n A0 A1 A2 A3 x4 x13 x14 x15 x16 x17 x18 x19 x20 = some out → JQ Y mL_law (some σ) [] [.inl (24, A0), .inl (36, A1), .inl (6, A2), .inr (3, A3)] n 1558 (fun b => [(0, .ref (qb Y)), (1, .ref (xad (qX Y) 0)), (2, .ref (b 0)), (3, .ref (b 1)), (4, .int x4), (5, .ref (b 2)), (6, .ref (b 3)), (13, .int x13), (14, .int x14), (15, .int x15), (16, .int x16), (17, .int x17), (18, .int x18), (19, .int x19), (20, .int x20)]) (fun _ => [])) (σ : Mem) (n : Nat) (A0 : Nat → Int32) (A1 : Nat → Int32) (A2 : Nat → Int32) (A3 : Nat → Int64) (x4 : Int32) (x13 : Int32) (x14 : Int32) (x15 : Int32) (x16 : Int32) (x17 : Int32) (x18 : Int32) (x19 : Int32) (x20 : Int32) (h : BL_law_1558 (qL Y) (qs Y) rl1488 rl1533 rl1558 σ n A0 A1 A2 A3 x4 x13 x14 x15 x16 x17 x18 x19 x20 = some out) : JQ Y mL_law (some σ) [] [.inl (24, A0), .inl (36, A1), .inl (6, A2), .inr (3, A3)] n 1558 (fun b => [(0, .ref (qb Y)), (1, .ref (xad (qX Y) 0)), (2, .ref (b 0)), (3, .ref (b 1)), (4, .int x4), (5, .ref (b 2)), (6, .ref (b 3)), (13, .int x13), (14, .int x14), (15, .int x15), (16, .int x16), (17, .int x17), (18, .int x18), (19, .int x19), (20, .int x20)]) (fun _ => []) := by
  refine q_iload 14 dL_law_1558 rfl (fun _ => rfl) ?_
  refine q_iload 13 dL_law_1560 rfl (fun _ => rfl) ?_
  refine q_if_ge dL_law_1562 rfl rfl h (fun c h => ?_) (fun c h => ?_)
  · refine q_iload 9 dL_law_1569 rfl (fun _ => rfl) ?_
    exact jL_law_1571 hE rl1488 hr1488 rl1533 hr1533 rl1558 hr1558 σ _ A0 A1 A2 A3 x4 x13 x14 x15 x16 x17 x18 x19 x20 x15 x20 h
  · refine q_iconst dL_law_1565 rfl ki_0 ?_
    refine q_goto dL_law_1566 rfl ?_
    exact jL_law_1571 hE rl1488 hr1488 rl1533 hr1533 rl1558 hr1558 σ _ A0 A1 A2 A3 x4 x13 x14 x15 x16 x17 x18 x19 x20 (0 : Int32) x20 h
noncomputable def FL_law_1558 (L : Nat) (xs : Nat → Int32) (rl1488 : Mem → Nat → (Nat → Int32) → (Nat → Int32) → (Nat → Int32) → (Nat → Int64) → Int32 → Int32 → Option (Int32)) (rl1533 : Mem → Nat → (Nat → Int32) → (Nat → Int32) → (Nat → Int32) → (Nat → Int64) → Int32 → Int32 → Int32 → Int32 → Int32 → Int32 → Int32 → Int32 → Option (Int32)) (fu : Nat) : Mem → Nat → (Nat → Int32) → (Nat → Int32) → (Nat → Int32) → (Nat → Int64) → Int32 → Int32 → Int32 → Int32 → Int32 → Int32 → Int32 → Int32 → Int32 → Option (Int32) :=
  Nat.rec (fun _ _ _ _ _ _ _ _ _ _ _ _ _ _ _ => none) (fun _ ih => BL_law_1558 L xs rl1488 rl1533 ih) fu
theorem lL_law_1558 {Y : QX} {out : Int32} (hE : ∀ σ2 : Mem, EndQ Y mL_law .ireturn [] (some σ2) [] (fun _ => [.int out])) (rl1488 : Mem → Nat → (Nat → Int32) → (Nat → Int32) → (Nat → Int32) → (Nat → Int64) → Int32 → Int32 → Option (Int32)) (hr1488 : ∀ (σ : Mem) (n : Nat) (A0 : Nat → Int32) (A1 : Nat → Int32) (A2 : Nat → Int32) (A3 : Nat → Int64) (x4 : Int32) (x13 : Int32), rl1488 σ n A0 A1 A2 A3 x4 x13 = some out → JQ Y mL_law (some σ) [] [.inl (24, A0), .inl (36, A1), .inl (6, A2), .inr (3, A3)] n 1488 (fun b => [(0, .ref (qb Y)), (1, .ref (xad (qX Y) 0)), (2, .ref (b 0)), (3, .ref (b 1)), (4, .int x4), (5, .ref (b 2)), (6, .ref (b 3)), (13, .int x13)]) (fun _ => [])) (rl1533 : Mem → Nat → (Nat → Int32) → (Nat → Int32) → (Nat → Int32) → (Nat → Int64) → Int32 → Int32 → Int32 → Int32 → Int32 → Int32 → Int32 → Int32 → Option (Int32)) (hr1533 : ∀ (σ : Mem) (n : Nat) (A0 : Nat → Int32) (A1 : Nat → Int32) (A2 : Nat → Int32) (A3 : Nat → Int64) (x4 : Int32) (x13 : Int32) (x14 : Int32) (x15 : Int32) (x16 : Int32) (x17 : Int32) (x18 : Int32) (x19 : Int32), rl1533 σ n A0 A1 A2 A3 x4 x13 x14 x15 x16 x17 x18 x19 = some out → JQ Y mL_law (some σ) [] [.inl (24, A0), .inl (36, A1), .inl (6, A2), .inr (3, A3)] n 1533 (fun b => [(0, .ref (qb Y)), (1, .ref (xad (qX Y) 0)), (2, .ref (b 0)), (3, .ref (b 1)), (4, .int x4), (5, .ref (b 2)), (6, .ref (b 3)), (13, .int x13), (14, .int x14), (15, .int x15), (16, .int x16), (17, .int x17), (18, .int x18), (19, .int x19)]) (fun _ => [])) : ∀ (fu : Nat) (σ : Mem) (n : Nat) (A0 : Nat → Int32) (A1 : Nat → Int32) (A2 : Nat → Int32) (A3 : Nat → Int64) (x4 : Int32) (x13 : Int32) (x14 : Int32) (x15 : Int32) (x16 : Int32) (x17 : Int32) (x18 : Int32) (x19 : Int32) (x20 : Int32), FL_law_1558 (qL Y) (qs Y) rl1488 rl1533 fu σ n A0 A1 A2 A3 x4 x13 x14 x15 x16 x17 x18 x19 x20 = some out → JQ Y mL_law (some σ) [] [.inl (24, A0), .inl (36, A1), .inl (6, A2), .inr (3, A3)] n 1558 (fun b => [(0, .ref (qb Y)), (1, .ref (xad (qX Y) 0)), (2, .ref (b 0)), (3, .ref (b 1)), (4, .int x4), (5, .ref (b 2)), (6, .ref (b 3)), (13, .int x13), (14, .int x14), (15, .int x15), (16, .int x16), (17, .int x17), (18, .int x18), (19, .int x19), (20, .int x20)]) (fun _ => []) := by
  intro fu
  induction fu with
  | zero => intro σ n A0 A1 A2 A3 x4 x13 x14 x15 x16 x17 x18 x19 x20 h; exact nn h
  | succ fu ih => intro σ n A0 A1 A2 A3 x4 x13 x14 x15 x16 x17 x18 x19 x20 h; exact jL_law_1558 hE rl1488 hr1488 rl1533 hr1533 (FL_law_1558 (qL Y) (qs Y) rl1488 rl1533 fu) ih σ n A0 A1 A2 A3 x4 x13 x14 x15 x16 x17 x18 x19 x20 h
noncomputable def BL_law_1533 (L : Nat) (xs : Nat → Int32) (rl1488 : Mem → Nat → (Nat → Int32) → (Nat → Int32) → (Nat → Int32) → (Nat → Int64) → Int32 → Int32 → Option (Int32)) (rl1533 : Mem → Nat → (Nat → Int32) → (Nat → Int32) → (Nat → Int32) → (Nat → Int64) → Int32 → Int32 → Int32 → Int32 → Int32 → Int32 → Int32 → Int32 → Option (Int32)) (σ : Mem) (n : Nat) (A0 : Nat → Int32) (A1 : Nat → Int32) (A2 : Nat → Int32) (A3 : Nat → Int64) (x4 : Int32) (x13 : Int32) (x14 : Int32) (x15 : Int32) (x16 : Int32) (x17 : Int32) (x18 : Int32) (x19 : Int32) : Option (Int32) :=
  if x15 ≤ x19 then
  (FL_law_1817 L xs rl1488 σ n A0 A1 A2 A3 x4 x13 x14 x16 x17 x18)
  else
  (if x16 = 0 then
  (FL_law_1817 L xs rl1488 σ n A0 A1 A2 A3 x4 x13 x14 x16 x17 x18)
  else
  (if 0 ≤ x19 then
  (FL_law_1558 L xs rl1488 rl1533 FU σ n A0 A1 A2 A3 x4 x13 x14 x15 x16 x17 x18 x19 x19)
  else
  (FL_law_1558 L xs rl1488 rl1533 FU σ n A0 A1 A2 A3 x4 x13 x14 x15 x16 x17 x18 x19 (-1 : Int32))))
set_option maxHeartbeats 4000000 in
set_option maxRecDepth 100000 in
theorem jL_law_1533 {Y : QX} {out : Int32} (hE : ∀ σ2 : Mem, EndQ Y mL_law .ireturn [] (some σ2) [] (fun _ => [.int out])) (rl1488 : Mem → Nat → (Nat → Int32) → (Nat → Int32) → (Nat → Int32) → (Nat → Int64) → Int32 → Int32 → Option (Int32)) (hr1488 : ∀ (σ : Mem) (n : Nat) (A0 : Nat → Int32) (A1 : Nat → Int32) (A2 : Nat → Int32) (A3 : Nat → Int64) (x4 : Int32) (x13 : Int32), rl1488 σ n A0 A1 A2 A3 x4 x13 = some out → JQ Y mL_law (some σ) [] [.inl (24, A0), .inl (36, A1), .inl (6, A2), .inr (3, A3)] n 1488 (fun b => [(0, .ref (qb Y)), (1, .ref (xad (qX Y) 0)), (2, .ref (b 0)), (3, .ref (b 1)), (4, .int x4), (5, .ref (b 2)), (6, .ref (b 3)), (13, .int x13)]) (fun _ => [])) (rl1533 : Mem → Nat → (Nat → Int32) → (Nat → Int32) → (Nat → Int32) → (Nat → Int64) → Int32 → Int32 → Int32 → Int32 → Int32 → Int32 → Int32 → Int32 → Option (Int32)) (hr1533 : ∀ (σ : Mem) (n : Nat) (A0 : Nat → Int32) (A1 : Nat → Int32) (A2 : Nat → Int32) (A3 : Nat → Int64) (x4 : Int32) (x13 : Int32) (x14 : Int32) (x15 : Int32) (x16 : Int32) (x17 : Int32) (x18 : Int32) (x19 : Int32), rl1533 σ n A0 A1 A2 A3 x4 x13 x14 x15 x16 x17 x18 x19 = some out → JQ Y mL_law (some σ) [] [.inl (24, A0), .inl (36, A1), .inl (6, A2), .inr (3, A3)] n 1533 (fun b => [(0, .ref (qb Y)), (1, .ref (xad (qX Y) 0)), (2, .ref (b 0)), (3, .ref (b 1)), (4, .int x4), (5, .ref (b 2)), (6, .ref (b 3)), (13, .int x13), (14, .int x14), (15, .int x15), (16, .int x16), (17, .int x17), (18, .int x18), (19, .int x19)]) (fun _ => [])) (σ : Mem) (n : Nat) (A0 : Nat → Int32) (A1 : Nat → Int32) (A2 : Nat → Int32) (A3 : Nat → Int64) (x4 : Int32) (x13 : Int32) (x14 : Int32) (x15 : Int32) (x16 : Int32) (x17 : Int32) (x18 : Int32) (x19 : Int32) (h : BL_law_1533 (qL Y) (qs Y) rl1488 rl1533 σ n A0 A1 A2 A3 x4 x13 x14 x15 x16 x17 x18 x19 = some out) : JQ Y mL_law (some σ) [] [.inl (24, A0), .inl (36, A1), .inl (6, A2), .inr (3, A3)] n 1533 (fun b => [(0, .ref (qb Y)), (1, .ref (xad (qX Y) 0)), (2, .ref (b 0)), (3, .ref (b 1)), (4, .int x4), (5, .ref (b 2)), (6, .ref (b 3)), (13, .int x13), (14, .int x14), (15, .int x15), (16, .int x16), (17, .int x17), (18, .int x18), (19, .int x19)]) (fun _ => []) := by
  refine q_iload 13 dL_law_1533 rfl (fun _ => rfl) ?_
  refine q_iload 9 dL_law_1535 rfl (fun _ => rfl) ?_
  refine q_icmp_ge dL_law_1537 rfl rfl h (fun c h => ?_) (fun c h => ?_)
  · refine q_sub [0, 1, 2, 3, 4, 5, 6, 7, 8, 10, 11, 12] (fun b => [(0, .ref (qb Y)), (1, .ref (xad (qX Y) 0)), (2, .ref (b 0)), (3, .ref (b 1)), (4, .int x4), (5, .ref (b 2)), (6, .ref (b 3)), (13, .int x13), (14, .int x14), (16, .int x16), (17, .int x17), (18, .int x18)]) (fun _ => rfl) ?_
    exact jL_law_1817 hE rl1488 hr1488 σ _ A0 A1 A2 A3 x4 x13 x14 x16 x17 x18 h
  · refine q_iload 10 dL_law_1540 rfl (fun _ => rfl) ?_
    refine q_if_eq dL_law_1542 rfl rfl h (fun c h => ?_) (fun c h => ?_)
    · refine q_sub [0, 1, 2, 3, 4, 5, 6, 7, 8, 10, 11, 12] (fun b => [(0, .ref (qb Y)), (1, .ref (xad (qX Y) 0)), (2, .ref (b 0)), (3, .ref (b 1)), (4, .int x4), (5, .ref (b 2)), (6, .ref (b 3)), (13, .int x13), (14, .int x14), (16, .int x16), (17, .int x17), (18, .int x18)]) (fun _ => rfl) ?_
      exact jL_law_1817 hE rl1488 hr1488 σ _ A0 A1 A2 A3 x4 x13 x14 x16 x17 x18 h
    · refine q_iload 13 dL_law_1545 rfl (fun _ => rfl) ?_
      refine q_if_ge dL_law_1547 rfl rfl h (fun c h => ?_) (fun c h => ?_)
      · refine q_iload 13 dL_law_1554 rfl (fun _ => rfl) ?_
        refine q_istoreV (fun b => [(20, .int x19), (0, .ref (qb Y)), (1, .ref (xad (qX Y) 0)), (2, .ref (b 0)), (3, .ref (b 1)), (4, .int x4), (5, .ref (b 2)), (6, .ref (b 3)), (13, .int x13), (14, .int x14), (15, .int x15), (16, .int x16), (17, .int x17), (18, .int x18), (19, .int x19)]) dL_law_1556 rfl (show 20 < 27 by decide) (fun _ => rfl) ?_
        refine q_sub [1, 2, 3, 4, 5, 6, 7, 8, 9, 10, 11, 12, 13, 14, 0] (fun b => [(0, .ref (qb Y)), (1, .ref (xad (qX Y) 0)), (2, .ref (b 0)), (3, .ref (b 1)), (4, .int x4), (5, .ref (b 2)), (6, .ref (b 3)), (13, .int x13), (14, .int x14), (15, .int x15), (16, .int x16), (17, .int x17), (18, .int x18), (19, .int x19), (20, .int x19)]) (fun _ => rfl) ?_
        exact lL_law_1558 hE rl1488 hr1488 rl1533 hr1533 FU σ _ A0 A1 A2 A3 x4 x13 x14 x15 x16 x17 x18 x19 x19 h
      · refine q_iconst dL_law_1550 rfl ki_m1 ?_
        refine q_goto dL_law_1551 rfl ?_
        refine q_istoreV (fun b => [(20, .int (-1 : Int32)), (0, .ref (qb Y)), (1, .ref (xad (qX Y) 0)), (2, .ref (b 0)), (3, .ref (b 1)), (4, .int x4), (5, .ref (b 2)), (6, .ref (b 3)), (13, .int x13), (14, .int x14), (15, .int x15), (16, .int x16), (17, .int x17), (18, .int x18), (19, .int x19)]) dL_law_1556 rfl (show 20 < 27 by decide) (fun _ => rfl) ?_
        refine q_sub [1, 2, 3, 4, 5, 6, 7, 8, 9, 10, 11, 12, 13, 14, 0] (fun b => [(0, .ref (qb Y)), (1, .ref (xad (qX Y) 0)), (2, .ref (b 0)), (3, .ref (b 1)), (4, .int x4), (5, .ref (b 2)), (6, .ref (b 3)), (13, .int x13), (14, .int x14), (15, .int x15), (16, .int x16), (17, .int x17), (18, .int x18), (19, .int x19), (20, .int (-1 : Int32))]) (fun _ => rfl) ?_
        exact lL_law_1558 hE rl1488 hr1488 rl1533 hr1533 FU σ _ A0 A1 A2 A3 x4 x13 x14 x15 x16 x17 x18 x19 (-1 : Int32) h
noncomputable def FL_law_1533 (L : Nat) (xs : Nat → Int32) (rl1488 : Mem → Nat → (Nat → Int32) → (Nat → Int32) → (Nat → Int32) → (Nat → Int64) → Int32 → Int32 → Option (Int32)) (fu : Nat) : Mem → Nat → (Nat → Int32) → (Nat → Int32) → (Nat → Int32) → (Nat → Int64) → Int32 → Int32 → Int32 → Int32 → Int32 → Int32 → Int32 → Int32 → Option (Int32) :=
  Nat.rec (fun _ _ _ _ _ _ _ _ _ _ _ _ _ _ => none) (fun _ ih => BL_law_1533 L xs rl1488 ih) fu
theorem lL_law_1533 {Y : QX} {out : Int32} (hE : ∀ σ2 : Mem, EndQ Y mL_law .ireturn [] (some σ2) [] (fun _ => [.int out])) (rl1488 : Mem → Nat → (Nat → Int32) → (Nat → Int32) → (Nat → Int32) → (Nat → Int64) → Int32 → Int32 → Option (Int32)) (hr1488 : ∀ (σ : Mem) (n : Nat) (A0 : Nat → Int32) (A1 : Nat → Int32) (A2 : Nat → Int32) (A3 : Nat → Int64) (x4 : Int32) (x13 : Int32), rl1488 σ n A0 A1 A2 A3 x4 x13 = some out → JQ Y mL_law (some σ) [] [.inl (24, A0), .inl (36, A1), .inl (6, A2), .inr (3, A3)] n 1488 (fun b => [(0, .ref (qb Y)), (1, .ref (xad (qX Y) 0)), (2, .ref (b 0)), (3, .ref (b 1)), (4, .int x4), (5, .ref (b 2)), (6, .ref (b 3)), (13, .int x13)]) (fun _ => [])) : ∀ (fu : Nat) (σ : Mem) (n : Nat) (A0 : Nat → Int32) (A1 : Nat → Int32) (A2 : Nat → Int32) (A3 : Nat → Int64) (x4 : Int32) (x13 : Int32) (x14 : Int32) (x15 : Int32) (x16 : Int32) (x17 : Int32) (x18 : Int32) (x19 : Int32), FL_law_1533 (qL Y) (qs Y) rl1488 fu σ n A0 A1 A2 A3 x4 x13 x14 x15 x16 x17 x18 x19 = some out → JQ Y mL_law (some σ) [] [.inl (24, A0), .inl (36, A1), .inl (6, A2), .inr (3, A3)] n 1533 (fun b => [(0, .ref (qb Y)), (1, .ref (xad (qX Y) 0)), (2, .ref (b 0)), (3, .ref (b 1)), (4, .int x4), (5, .ref (b 2)), (6, .ref (b 3)), (13, .int x13), (14, .int x14), (15, .int x15), (16, .int x16), (17, .int x17), (18, .int x18), (19, .int x19)]) (fun _ => []) := by
  intro fu
  induction fu with
  | zero => intro σ n A0 A1 A2 A3 x4 x13 x14 x15 x16 x17 x18 x19 h; exact nn h
  | succ fu ih => intro σ n A0 A1 A2 A3 x4 x13 x14 x15 x16 x17 x18 x19 h; exact jL_law_1533 hE rl1488 hr1488 (FL_law_1533 (qL Y) (qs Y) rl1488 fu) ih σ n A0 A1 A2 A3 x4 x13 x14 x15 x16 x17 x18 x19 h
noncomputable def BL_law_1488 (L : Nat) (xs : Nat → Int32) (rl1488 : Mem → Nat → (Nat → Int32) → (Nat → Int32) → (Nat → Int32) → (Nat → Int64) → Int32 → Int32 → Option (Int32)) (σ : Mem) (n : Nat) (A0 : Nat → Int32) (A1 : Nat → Int32) (A2 : Nat → Int32) (A3 : Nat → Int64) (x4 : Int32) (x13 : Int32) : Option (Int32) :=
  rd (2 : Int32) 24 fun j229 =>
  if (A0 j229) ≤ x13 then
  (FL_law_1873 L xs FU σ n A0 A2 (0 : Int32))
  else
  (bn (FL_cell L xs (9 : Int32)) fun o230 =>
  nm ((o230 >>> (x13 &&& 31)) &&& (1 : Int32)) fun x_231 =>
  rd (0 : Int32) 24 fun j232 =>
  rd (1 : Int32) 24 fun j233 =>
  nm ((A0 j232) * (A0 j233)) fun x_234 =>
  FL_law_1533 L xs rl1488 FU σ n A0 A1 A2 A3 x4 x13 x_231 x_234 (-9 : Int32) (-9 : Int32) (-9 : Int32) (-1 : Int32))
set_option maxHeartbeats 4000000 in
set_option maxRecDepth 100000 in
theorem jL_law_1488 {Y : QX} {out : Int32} (hE : ∀ σ2 : Mem, EndQ Y mL_law .ireturn [] (some σ2) [] (fun _ => [.int out])) (rl1488 : Mem → Nat → (Nat → Int32) → (Nat → Int32) → (Nat → Int32) → (Nat → Int64) → Int32 → Int32 → Option (Int32)) (hr1488 : ∀ (σ : Mem) (n : Nat) (A0 : Nat → Int32) (A1 : Nat → Int32) (A2 : Nat → Int32) (A3 : Nat → Int64) (x4 : Int32) (x13 : Int32), rl1488 σ n A0 A1 A2 A3 x4 x13 = some out → JQ Y mL_law (some σ) [] [.inl (24, A0), .inl (36, A1), .inl (6, A2), .inr (3, A3)] n 1488 (fun b => [(0, .ref (qb Y)), (1, .ref (xad (qX Y) 0)), (2, .ref (b 0)), (3, .ref (b 1)), (4, .int x4), (5, .ref (b 2)), (6, .ref (b 3)), (13, .int x13)]) (fun _ => [])) (σ : Mem) (n : Nat) (A0 : Nat → Int32) (A1 : Nat → Int32) (A2 : Nat → Int32) (A3 : Nat → Int64) (x4 : Int32) (x13 : Int32) (h : BL_law_1488 (qL Y) (qs Y) rl1488 σ n A0 A1 A2 A3 x4 x13 = some out) : JQ Y mL_law (some σ) [] [.inl (24, A0), .inl (36, A1), .inl (6, A2), .inr (3, A3)] n 1488 (fun b => [(0, .ref (qb Y)), (1, .ref (xad (qX Y) 0)), (2, .ref (b 0)), (3, .ref (b 1)), (4, .int x4), (5, .ref (b 2)), (6, .ref (b 3)), (13, .int x13)]) (fun _ => []) := by
  refine q_iload 7 dL_law_1488 rfl (fun _ => rfl) ?_
  refine q_aload_n 2 (fun b => b 0) dL_law_1490 rfl rfl (fun _ => rfl) ?_
  refine q_iconst dL_law_1491 rfl ki_2 ?_
  refine q_iald 0 24 A0 rfl dL_law_1492 rfl h (fun j229 h => ?_)
  refine q_icmp_ge dL_law_1493 rfl rfl h (fun c h => ?_) (fun c h => ?_)
  · refine q_iconst dL_law_1870 rfl ki_0 ?_
    refine q_istoreV (fun b => [(13, .int (0 : Int32)), (0, .ref (qb Y)), (1, .ref (xad (qX Y) 0)), (2, .ref (b 0)), (3, .ref (b 1)), (4, .int x4), (5, .ref (b 2)), (6, .ref (b 3))]) dL_law_1871 rfl (show 13 < 27 by decide) (fun _ => rfl) ?_
    refine q_sub [2, 3, 6, 0] (fun b => [(1, .ref (xad (qX Y) 0)), (2, .ref (b 0)), (5, .ref (b 2)), (13, .int (0 : Int32))]) (fun _ => rfl) ?_
    refine q_pick [0, 2] [.inl (24, A0), .inl (6, A2)] [] (fun b => [(1, .ref (xad (qX Y) 0)), (2, .ref (b 0)), (5, .ref (b 1)), (13, .int (0 : Int32))]) (fun _ => []) rfl rfl (by decide) rfl (fun _ => rfl) (fun _ => rfl) ?_
    exact lL_law_1873 hE FU σ _ A0 A2 (0 : Int32) h
  · refine q_aload_n 0 (fun _ => qb Y) dL_law_1496 rfl rfl (fun _ => rfl) ?_
    refine q_bipush dL_law_1497 rfl kb_9 ?_
    obtain ⟨o230, hc, h⟩ := bn_of h
    refine q_call [.inl (24, A0), .inl (36, A1), .inl (6, A2), .inr (3, A3)] 4 (fun _ => [.ref (qb Y), .int (9 : Int32)]) (fun _ => []) (coL_cell (qL Y) (qs Y) (9 : Int32) o230 hc) rfl rfl rfl ms_RL_9 (by decide) (Or.inl rfl) (fun _ => rfl) (fun _ => rfl) (fun _ => rfl) (fun _ => Nat.le_of_ble_eq_true rfl) dL_law_1499 rfl ?_
    show JQ Y mL_law (some σ) [] [.inl (24, A0), .inl (36, A1), .inl (6, A2), .inr (3, A3)] _ 1502 (fun b => [(0, .ref (qb Y)), (1, .ref (xad (qX Y) 0)), (2, .ref (b 0)), (3, .ref (b 1)), (4, .int x4), (5, .ref (b 2)), (6, .ref (b 3)), (13, .int x13)]) (fun _ => [.int o230])
    refine q_iload 7 dL_law_1502 rfl (fun _ => rfl) ?_
    refine q_ishr dL_law_1504 rfl ?_
    refine q_iconst dL_law_1505 rfl ki_1 ?_
    refine q_iand dL_law_1506 rfl ?_
    refine q_istore (fun x_231 => (fun b => [(14, .int x_231), (0, .ref (qb Y)), (1, .ref (xad (qX Y) 0)), (2, .ref (b 0)), (3, .ref (b 1)), (4, .int x4), (5, .ref (b 2)), (6, .ref (b 3)), (13, .int x13)])) dL_law_1507 rfl (show 14 < 27 by decide) (fun _ _ => rfl) h (fun x_231 h => ?_)
    refine q_aload_n 3 (fun b => b 0) dL_law_1509 rfl rfl (fun _ => rfl) ?_
    refine q_iconst dL_law_1510 rfl ki_0 ?_
    refine q_iald 0 24 A0 rfl dL_law_1511 rfl h (fun j232 h => ?_)
    refine q_aload_n 3 (fun b => b 0) dL_law_1512 rfl rfl (fun _ => rfl) ?_
    refine q_iconst dL_law_1513 rfl ki_1 ?_
    refine q_iald 0 24 A0 rfl dL_law_1514 rfl h (fun j233 h => ?_)
    refine q_imul dL_law_1515 rfl ?_
    refine q_istore (fun x_234 => (fun b => [(15, .int x_234), (14, .int x_231), (0, .ref (qb Y)), (1, .ref (xad (qX Y) 0)), (2, .ref (b 0)), (3, .ref (b 1)), (4, .int x4), (5, .ref (b 2)), (6, .ref (b 3)), (13, .int x13)])) dL_law_1516 rfl (show 15 < 27 by decide) (fun _ _ => rfl) h (fun x_234 h => ?_)
    refine q_bipush dL_law_1518 rfl kb_m9 ?_
    refine q_istoreV (fun b => [(16, .int (-9 : Int32)), (15, .int x_234), (14, .int x_231), (0, .ref (qb Y)), (1, .ref (xad (qX Y) 0)), (2, .ref (b 0)), (3, .ref (b 1)), (4, .int x4), (5, .ref (b 2)), (6, .ref (b 3)), (13, .int x13)]) dL_law_1520 rfl (show 16 < 27 by decide) (fun _ => rfl) ?_
    refine q_bipush dL_law_1522 rfl kb_m9 ?_
    refine q_istoreV (fun b => [(17, .int (-9 : Int32)), (16, .int (-9 : Int32)), (15, .int x_234), (14, .int x_231), (0, .ref (qb Y)), (1, .ref (xad (qX Y) 0)), (2, .ref (b 0)), (3, .ref (b 1)), (4, .int x4), (5, .ref (b 2)), (6, .ref (b 3)), (13, .int x13)]) dL_law_1524 rfl (show 17 < 27 by decide) (fun _ => rfl) ?_
    refine q_bipush dL_law_1526 rfl kb_m9 ?_
    refine q_istoreV (fun b => [(18, .int (-9 : Int32)), (17, .int (-9 : Int32)), (16, .int (-9 : Int32)), (15, .int x_234), (14, .int x_231), (0, .ref (qb Y)), (1, .ref (xad (qX Y) 0)), (2, .ref (b 0)), (3, .ref (b 1)), (4, .int x4), (5, .ref (b 2)), (6, .ref (b 3)), (13, .int x13)]) dL_law_1528 rfl (show 18 < 27 by decide) (fun _ => rfl) ?_
    refine q_iconst dL_law_1530 rfl ki_m1 ?_
    refine q_istoreV (fun b => [(19, .int (-1 : Int32)), (18, .int (-9 : Int32)), (17, .int (-9 : Int32)), (16, .int (-9 : Int32)), (15, .int x_234), (14, .int x_231), (0, .ref (qb Y)), (1, .ref (xad (qX Y) 0)), (2, .ref (b 0)), (3, .ref (b 1)), (4, .int x4), (5, .ref (b 2)), (6, .ref (b 3)), (13, .int x13)]) dL_law_1531 rfl (show 19 < 27 by decide) (fun _ => rfl) ?_
    refine q_sub [6, 7, 8, 9, 10, 11, 12, 13, 5, 4, 3, 2, 1, 0] (fun b => [(0, .ref (qb Y)), (1, .ref (xad (qX Y) 0)), (2, .ref (b 0)), (3, .ref (b 1)), (4, .int x4), (5, .ref (b 2)), (6, .ref (b 3)), (13, .int x13), (14, .int x_231), (15, .int x_234), (16, .int (-9 : Int32)), (17, .int (-9 : Int32)), (18, .int (-9 : Int32)), (19, .int (-1 : Int32))]) (fun _ => rfl) ?_
    exact lL_law_1533 hE rl1488 hr1488 FU σ _ A0 A1 A2 A3 x4 x13 x_231 x_234 (-9 : Int32) (-9 : Int32) (-9 : Int32) (-1 : Int32) h
noncomputable def FL_law_1488 (L : Nat) (xs : Nat → Int32) (fu : Nat) : Mem → Nat → (Nat → Int32) → (Nat → Int32) → (Nat → Int32) → (Nat → Int64) → Int32 → Int32 → Option (Int32) :=
  Nat.rec (fun _ _ _ _ _ _ _ _ => none) (fun _ ih => BL_law_1488 L xs ih) fu
theorem lL_law_1488 {Y : QX} {out : Int32} (hE : ∀ σ2 : Mem, EndQ Y mL_law .ireturn [] (some σ2) [] (fun _ => [.int out])) : ∀ (fu : Nat) (σ : Mem) (n : Nat) (A0 : Nat → Int32) (A1 : Nat → Int32) (A2 : Nat → Int32) (A3 : Nat → Int64) (x4 : Int32) (x13 : Int32), FL_law_1488 (qL Y) (qs Y) fu σ n A0 A1 A2 A3 x4 x13 = some out → JQ Y mL_law (some σ) [] [.inl (24, A0), .inl (36, A1), .inl (6, A2), .inr (3, A3)] n 1488 (fun b => [(0, .ref (qb Y)), (1, .ref (xad (qX Y) 0)), (2, .ref (b 0)), (3, .ref (b 1)), (4, .int x4), (5, .ref (b 2)), (6, .ref (b 3)), (13, .int x13)]) (fun _ => []) := by
  intro fu
  induction fu with
  | zero => intro σ n A0 A1 A2 A3 x4 x13 h; exact nn h
  | succ fu ih => intro σ n A0 A1 A2 A3 x4 x13 h; exact jL_law_1488 hE (FL_law_1488 (qL Y) (qs Y) fu) ih σ n A0 A1 A2 A3 x4 x13 h
noncomputable def FL_law_1414 (L : Nat) (xs : Nat → Int32) (rl1101 : Mem → Nat → (Nat → Int32) → (Nat → Int32) → (Nat → Int32) → (Nat → Int64) → Int32 → Int64 → Int32 → Option (Int32)) (σ : Mem) (n : Nat) (A0 : Nat → Int32) (A1 : Nat → Int32) (A2 : Nat → Int32) (A3 : Nat → Int64) (x4 : Int32) (x9 : Int64) (x13 : Int32) : Option (Int32) :=
  bi (FX8_rows σ x13 x9 x13) fun r235 σ236 =>
  if r235 = (-1 : Int32) then
  (bi (FX8_rows σ236 x13 (-1 : Int64) (0 : Int32)) fun r237 σ238 =>
  if r237 = (-2 : Int32) then
  (rd (0 : Int32) 24 fun j239 =>
  rd (1 : Int32) 24 fun j240 =>
  bi (FX8_rows σ238 x13 ((1 : Int64) <<< ((((A0 j239) * (A0 j240))).toInt64 &&& 63)) (0 : Int32)) fun r241 σ242 =>
  if r241 = (-2 : Int32) then
  (bi (FX8_rows σ242 (4 : Int32) x9 (0 : Int32)) fun r243 σ244 =>
  if r243 = (-2 : Int32) then
  (nm (x13 + (1 : Int32)) fun x_245 =>
  rl1101 σ244 n A0 A1 A2 A3 x4 x9 x_245)
  else
  (some (0 : Int32)))
  else
  (some (0 : Int32)))
  else
  (some (0 : Int32)))
  else
  (some (0 : Int32))
set_option maxHeartbeats 4000000 in
set_option maxRecDepth 100000 in
theorem jL_law_1414 {Y : QX} {out : Int32} (hE : ∀ σ2 : Mem, EndQ Y mL_law .ireturn [] (some σ2) [] (fun _ => [.int out])) (rl1101 : Mem → Nat → (Nat → Int32) → (Nat → Int32) → (Nat → Int32) → (Nat → Int64) → Int32 → Int64 → Int32 → Option (Int32)) (hr1101 : ∀ (σ : Mem) (n : Nat) (A0 : Nat → Int32) (A1 : Nat → Int32) (A2 : Nat → Int32) (A3 : Nat → Int64) (x4 : Int32) (x9 : Int64) (x13 : Int32), rl1101 σ n A0 A1 A2 A3 x4 x9 x13 = some out → JQ Y mL_law (some σ) [] [.inl (24, A0), .inl (36, A1), .inl (6, A2), .inr (3, A3)] n 1101 (fun b => [(0, .ref (qb Y)), (1, .ref (xad (qX Y) 0)), (2, .ref (b 0)), (3, .ref (b 1)), (4, .int x4), (5, .ref (b 2)), (6, .ref (b 3)), (9, .long x9), (13, .int x13)]) (fun _ => [])) (σ : Mem) (n : Nat) (A0 : Nat → Int32) (A1 : Nat → Int32) (A2 : Nat → Int32) (A3 : Nat → Int64) (x4 : Int32) (x9 : Int64) (x13 : Int32) (h : FL_law_1414 (qL Y) (qs Y) rl1101 σ n A0 A1 A2 A3 x4 x9 x13 = some out) : JQ Y mL_law (some σ) [] [.inl (24, A0), .inl (36, A1), .inl (6, A2), .inr (3, A3)] n 1414 (fun b => [(0, .ref (qb Y)), (1, .ref (xad (qX Y) 0)), (2, .ref (b 0)), (3, .ref (b 1)), (4, .int x4), (5, .ref (b 2)), (6, .ref (b 3)), (9, .long x9), (13, .int x13)]) (fun _ => []) := by
  refine q_aload_n 1 (fun _ => xad (qX Y) 0) dL_law_1414 rfl rfl (fun _ => rfl) ?_
  refine q_iload 8 dL_law_1415 rfl (fun _ => rfl) ?_
  refine q_lload 7 dL_law_1417 rfl (fun _ => rfl) ?_
  refine q_iload 8 dL_law_1419 rfl (fun _ => rfl) ?_
  obtain ⟨r235, σ236, hc, h⟩ := bi_of h
  refine q_callX [.int x13, .long x9, .int x13] [] (coX8_rows σ x13 x9 x13 r235 σ236 hc) mv_RL_71 (by decide) rfl rfl (fun _ => rfl) (Nat.le_of_ble_eq_true rfl) dL_law_1421 rfl ?_
  refine q_iconst dL_law_1424 rfl ki_m1 ?_
  refine q_icmp_ne dL_law_1425 rfl rfl h (fun c h => ?_) (fun c h => ?_)
  · refine q_iconst dL_law_1477 rfl ki_0 ?_
    refine q_sub [0, 1, 4, 7, 8] (fun _ => [(0, .ref (qb Y)), (1, .ref (xad (qX Y) 0)), (4, .int x4), (9, .long x9), (13, .int x13)]) (fun _ => rfl) ?_
    refine q_pick [] [] [] (fun _ => [(0, .ref (qb Y)), (1, .ref (xad (qX Y) 0)), (4, .int x4), (9, .long x9), (13, .int x13)]) (fun _ => [.int (0 : Int32)]) rfl rfl (by decide) rfl (fun _ => rfl) (fun _ => rfl) ?_
    cases h
    exact hE _ _ _ _ dL_law_1478
  · refine q_aload_n 1 (fun _ => xad (qX Y) 0) dL_law_1428 rfl rfl (fun _ => rfl) ?_
    refine q_iload 8 dL_law_1429 rfl (fun _ => rfl) ?_
    refine q_ldc2 dL_law_1431 rfl qd_75 ?_
    refine q_iconst dL_law_1434 rfl ki_0 ?_
    obtain ⟨r237, σ238, hc, h⟩ := bi_of h
    refine q_callX [.int x13, .long (-1 : Int64), .int (0 : Int32)] [] (coX8_rows σ236 x13 (-1 : Int64) (0 : Int32) r237 σ238 hc) mv_RL_71 (by decide) rfl rfl (fun _ => rfl) (Nat.le_of_ble_eq_true rfl) dL_law_1435 rfl ?_
    refine q_bipush dL_law_1438 rfl kb_m2 ?_
    refine q_icmp_ne dL_law_1440 rfl rfl h (fun c h => ?_) (fun c h => ?_)
    · refine q_iconst dL_law_1477 rfl ki_0 ?_
      refine q_sub [0, 1, 4, 7, 8] (fun _ => [(0, .ref (qb Y)), (1, .ref (xad (qX Y) 0)), (4, .int x4), (9, .long x9), (13, .int x13)]) (fun _ => rfl) ?_
      refine q_pick [] [] [] (fun _ => [(0, .ref (qb Y)), (1, .ref (xad (qX Y) 0)), (4, .int x4), (9, .long x9), (13, .int x13)]) (fun _ => [.int (0 : Int32)]) rfl rfl (by decide) rfl (fun _ => rfl) (fun _ => rfl) ?_
      cases h
      exact hE _ _ _ _ dL_law_1478
    · refine q_aload_n 1 (fun _ => xad (qX Y) 0) dL_law_1443 rfl rfl (fun _ => rfl) ?_
      refine q_iload 8 dL_law_1444 rfl (fun _ => rfl) ?_
      refine q_lconst dL_law_1446 rfl kl_1 ?_
      refine q_aload_n 2 (fun b => b 0) dL_law_1447 rfl rfl (fun _ => rfl) ?_
      refine q_iconst dL_law_1448 rfl ki_0 ?_
      refine q_iald 0 24 A0 rfl dL_law_1449 rfl h (fun j239 h => ?_)
      refine q_aload_n 2 (fun b => b 0) dL_law_1450 rfl rfl (fun _ => rfl) ?_
      refine q_iconst dL_law_1451 rfl ki_1 ?_
      refine q_iald 0 24 A0 rfl dL_law_1452 rfl h (fun j240 h => ?_)
      refine q_imul dL_law_1453 rfl ?_
      refine q_lshl dL_law_1454 rfl ?_
      refine q_iconst dL_law_1455 rfl ki_0 ?_
      obtain ⟨r241, σ242, hc, h⟩ := bi_of h
      refine q_callX [.int x13, .long ((1 : Int64) <<< ((((A0 j239) * (A0 j240))).toInt64 &&& 63)), .int (0 : Int32)] [] (coX8_rows σ238 x13 ((1 : Int64) <<< ((((A0 j239) * (A0 j240))).toInt64 &&& 63)) (0 : Int32) r241 σ242 hc) mv_RL_71 (by decide) rfl rfl (fun _ => rfl) (Nat.le_of_ble_eq_true rfl) dL_law_1456 rfl ?_
      refine q_bipush dL_law_1459 rfl kb_m2 ?_
      refine q_icmp_ne dL_law_1461 rfl rfl h (fun c h => ?_) (fun c h => ?_)
      · refine q_iconst dL_law_1477 rfl ki_0 ?_
        refine q_sub [0, 1, 4, 7, 8] (fun _ => [(0, .ref (qb Y)), (1, .ref (xad (qX Y) 0)), (4, .int x4), (9, .long x9), (13, .int x13)]) (fun _ => rfl) ?_
        refine q_pick [] [] [] (fun _ => [(0, .ref (qb Y)), (1, .ref (xad (qX Y) 0)), (4, .int x4), (9, .long x9), (13, .int x13)]) (fun _ => [.int (0 : Int32)]) rfl rfl (by decide) rfl (fun _ => rfl) (fun _ => rfl) ?_
        cases h
        exact hE _ _ _ _ dL_law_1478
      · refine q_aload_n 1 (fun _ => xad (qX Y) 0) dL_law_1464 rfl rfl (fun _ => rfl) ?_
        refine q_iconst dL_law_1465 rfl ki_4 ?_
        refine q_lload 7 dL_law_1466 rfl (fun _ => rfl) ?_
        refine q_iconst dL_law_1468 rfl ki_0 ?_
        obtain ⟨r243, σ244, hc, h⟩ := bi_of h
        refine q_callX [.int (4 : Int32), .long x9, .int (0 : Int32)] [] (coX8_rows σ242 (4 : Int32) x9 (0 : Int32) r243 σ244 hc) mv_RL_71 (by decide) rfl rfl (fun _ => rfl) (Nat.le_of_ble_eq_true rfl) dL_law_1469 rfl ?_
        refine q_bipush dL_law_1472 rfl kb_m2 ?_
        refine q_icmp_eq dL_law_1474 rfl rfl h (fun c h => ?_) (fun c h => ?_)
        · refine q_iinc 8 (fun x_245 => (fun b => [(13, .int x_245), (0, .ref (qb Y)), (1, .ref (xad (qX Y) 0)), (2, .ref (b 0)), (3, .ref (b 1)), (4, .int x4), (5, .ref (b 2)), (6, .ref (b 3)), (9, .long x9)])) dL_law_1479 rfl (fun _ => rfl) ki_1 (show 13 < 27 by decide) (fun _ _ => rfl) h (fun x_245 h => ?_)
          refine q_goto dL_law_1482 rfl ?_
          refine q_sub [1, 2, 3, 4, 5, 6, 7, 8, 0] (fun b => [(0, .ref (qb Y)), (1, .ref (xad (qX Y) 0)), (2, .ref (b 0)), (3, .ref (b 1)), (4, .int x4), (5, .ref (b 2)), (6, .ref (b 3)), (9, .long x9), (13, .int x_245)]) (fun _ => rfl) ?_
          exact hr1101 σ244 _ A0 A1 A2 A3 x4 x9 x_245 h
        · refine q_iconst dL_law_1477 rfl ki_0 ?_
          refine q_sub [0, 1, 4, 7, 8] (fun _ => [(0, .ref (qb Y)), (1, .ref (xad (qX Y) 0)), (4, .int x4), (9, .long x9), (13, .int x13)]) (fun _ => rfl) ?_
          refine q_pick [] [] [] (fun _ => [(0, .ref (qb Y)), (1, .ref (xad (qX Y) 0)), (4, .int x4), (9, .long x9), (13, .int x13)]) (fun _ => [.int (0 : Int32)]) rfl rfl (by decide) rfl (fun _ => rfl) (fun _ => rfl) ?_
          cases h
          exact hE _ _ _ _ dL_law_1478
noncomputable def FL_law_1368 (L : Nat) (xs : Nat → Int32) (rl1101 : Mem → Nat → (Nat → Int32) → (Nat → Int32) → (Nat → Int32) → (Nat → Int64) → Int32 → Int64 → Int32 → Option (Int32)) (σ : Mem) (n : Nat) (A0 : Nat → Int32) (A1 : Nat → Int32) (A2 : Nat → Int32) (A3 : Nat → Int64) (x4 : Int32) (x9 : Int64) (x13 : Int32) (x14 : Int32) (x15 : Int32) (s0 : Int32) (s1 : Int32) : Option (Int32) :=
  if s1 = s0 then
  (if x13 = (2 : Int32) then
  (bi (FX8_rows σ x13 x9 (1 : Int32)) fun r246 σ247 =>
  if x14 = 0 then
  (if r246 = (-9 : Int32) then
  (FL_law_1414 L xs rl1101 σ247 n A0 A1 A2 A3 x4 x9 x13)
  else
  (some (0 : Int32)))
  else
  (dzI x4 <|
  dzI (4 : Int32) <|
  dzI (4 : Int32) <|
  if r246 = (((10 : Int32) * ((x15 - x15 / x4 * x4) / (4 : Int32))) + (x15 - x15 / (4 : Int32) * (4 : Int32))) then
  (FL_law_1414 L xs rl1101 σ247 n A0 A1 A2 A3 x4 x9 x13)
  else
  (some (0 : Int32))))
  else
  (FL_law_1414 L xs rl1101 σ n A0 A1 A2 A3 x4 x9 x13))
  else
  (some (0 : Int32))
set_option maxHeartbeats 4000000 in
set_option maxRecDepth 100000 in
theorem jL_law_1368 {Y : QX} {out : Int32} (hE : ∀ σ2 : Mem, EndQ Y mL_law .ireturn [] (some σ2) [] (fun _ => [.int out])) (rl1101 : Mem → Nat → (Nat → Int32) → (Nat → Int32) → (Nat → Int32) → (Nat → Int64) → Int32 → Int64 → Int32 → Option (Int32)) (hr1101 : ∀ (σ : Mem) (n : Nat) (A0 : Nat → Int32) (A1 : Nat → Int32) (A2 : Nat → Int32) (A3 : Nat → Int64) (x4 : Int32) (x9 : Int64) (x13 : Int32), rl1101 σ n A0 A1 A2 A3 x4 x9 x13 = some out → JQ Y mL_law (some σ) [] [.inl (24, A0), .inl (36, A1), .inl (6, A2), .inr (3, A3)] n 1101 (fun b => [(0, .ref (qb Y)), (1, .ref (xad (qX Y) 0)), (2, .ref (b 0)), (3, .ref (b 1)), (4, .int x4), (5, .ref (b 2)), (6, .ref (b 3)), (9, .long x9), (13, .int x13)]) (fun _ => [])) (σ : Mem) (n : Nat) (A0 : Nat → Int32) (A1 : Nat → Int32) (A2 : Nat → Int32) (A3 : Nat → Int64) (x4 : Int32) (x9 : Int64) (x13 : Int32) (x14 : Int32) (x15 : Int32) (s0 : Int32) (s1 : Int32) (h : FL_law_1368 (qL Y) (qs Y) rl1101 σ n A0 A1 A2 A3 x4 x9 x13 x14 x15 s0 s1 = some out) : JQ Y mL_law (some σ) [] [.inl (24, A0), .inl (36, A1), .inl (6, A2), .inr (3, A3)] n 1368 (fun b => [(0, .ref (qb Y)), (1, .ref (xad (qX Y) 0)), (2, .ref (b 0)), (3, .ref (b 1)), (4, .int x4), (5, .ref (b 2)), (6, .ref (b 3)), (9, .long x9), (13, .int x13), (14, .int x14), (15, .int x15)]) (fun _ => [.int s0, .int s1]) := by
  refine q_icmp_ne dL_law_1368 rfl rfl h (fun c h => ?_) (fun c h => ?_)
  · refine q_iconst dL_law_1477 rfl ki_0 ?_
    refine q_sub [0, 1, 4, 7, 8, 9, 10] (fun _ => [(0, .ref (qb Y)), (1, .ref (xad (qX Y) 0)), (4, .int x4), (9, .long x9), (13, .int x13), (14, .int x14), (15, .int x15)]) (fun _ => rfl) ?_
    refine q_pick [] [] [] (fun _ => [(0, .ref (qb Y)), (1, .ref (xad (qX Y) 0)), (4, .int x4), (9, .long x9), (13, .int x13), (14, .int x14), (15, .int x15)]) (fun _ => [.int (0 : Int32)]) rfl rfl (by decide) rfl (fun _ => rfl) (fun _ => rfl) ?_
    cases h
    exact hE _ _ _ _ dL_law_1478
  · refine q_iload 8 dL_law_1371 rfl (fun _ => rfl) ?_
    refine q_iconst dL_law_1373 rfl ki_2 ?_
    refine q_icmp_ne dL_law_1374 rfl rfl h (fun c h => ?_) (fun c h => ?_)
    · refine q_sub [0, 1, 2, 3, 4, 5, 6, 7, 8] (fun b => [(0, .ref (qb Y)), (1, .ref (xad (qX Y) 0)), (2, .ref (b 0)), (3, .ref (b 1)), (4, .int x4), (5, .ref (b 2)), (6, .ref (b 3)), (9, .long x9), (13, .int x13)]) (fun _ => rfl) ?_
      exact jL_law_1414 hE rl1101 hr1101 σ _ A0 A1 A2 A3 x4 x9 x13 h
    · refine q_aload_n 1 (fun _ => xad (qX Y) 0) dL_law_1377 rfl rfl (fun _ => rfl) ?_
      refine q_iload 8 dL_law_1378 rfl (fun _ => rfl) ?_
      refine q_lload 7 dL_law_1380 rfl (fun _ => rfl) ?_
      refine q_iconst dL_law_1382 rfl ki_1 ?_
      obtain ⟨r246, σ247, hc, h⟩ := bi_of h
      refine q_callX [.int x13, .long x9, .int (1 : Int32)] [] (coX8_rows σ x13 x9 (1 : Int32) r246 σ247 hc) mv_RL_71 (by decide) rfl rfl (fun _ => rfl) (Nat.le_of_ble_eq_true rfl) dL_law_1383 rfl ?_
      refine q_iload 9 dL_law_1386 rfl (fun _ => rfl) ?_
      refine q_if_ne dL_law_1388 rfl rfl h (fun c h => ?_) (fun c h => ?_)
      · refine q_bipush dL_law_1396 rfl kb_10 ?_
        refine q_iload 10 dL_law_1398 rfl (fun _ => rfl) ?_
        refine q_iload 4 dL_law_1400 rfl (fun _ => rfl) ?_
        refine q_irem dL_law_1402 rfl h (fun h => ?_)
        refine q_iconst dL_law_1403 rfl ki_4 ?_
        refine q_idiv dL_law_1404 rfl h (fun h => ?_)
        refine q_imul dL_law_1405 rfl ?_
        refine q_iload 10 dL_law_1406 rfl (fun _ => rfl) ?_
        refine q_iconst dL_law_1408 rfl ki_4 ?_
        refine q_irem dL_law_1409 rfl h (fun h => ?_)
        refine q_iadd dL_law_1410 rfl ?_
        refine q_icmp_ne dL_law_1411 rfl rfl h (fun c h => ?_) (fun c h => ?_)
        · refine q_iconst dL_law_1477 rfl ki_0 ?_
          refine q_sub [0, 1, 4, 7, 8, 9, 10] (fun _ => [(0, .ref (qb Y)), (1, .ref (xad (qX Y) 0)), (4, .int x4), (9, .long x9), (13, .int x13), (14, .int x14), (15, .int x15)]) (fun _ => rfl) ?_
          refine q_pick [] [] [] (fun _ => [(0, .ref (qb Y)), (1, .ref (xad (qX Y) 0)), (4, .int x4), (9, .long x9), (13, .int x13), (14, .int x14), (15, .int x15)]) (fun _ => [.int (0 : Int32)]) rfl rfl (by decide) rfl (fun _ => rfl) (fun _ => rfl) ?_
          cases h
          exact hE _ _ _ _ dL_law_1478
        · refine q_sub [0, 1, 2, 3, 4, 5, 6, 7, 8] (fun b => [(0, .ref (qb Y)), (1, .ref (xad (qX Y) 0)), (2, .ref (b 0)), (3, .ref (b 1)), (4, .int x4), (5, .ref (b 2)), (6, .ref (b 3)), (9, .long x9), (13, .int x13)]) (fun _ => rfl) ?_
          exact jL_law_1414 hE rl1101 hr1101 σ247 _ A0 A1 A2 A3 x4 x9 x13 h
      · refine q_bipush dL_law_1391 rfl kb_m9 ?_
        refine q_goto dL_law_1393 rfl ?_
        refine q_icmp_ne dL_law_1411 rfl rfl h (fun c h => ?_) (fun c h => ?_)
        · refine q_iconst dL_law_1477 rfl ki_0 ?_
          refine q_sub [0, 1, 4, 7, 8, 9, 10] (fun _ => [(0, .ref (qb Y)), (1, .ref (xad (qX Y) 0)), (4, .int x4), (9, .long x9), (13, .int x13), (14, .int x14), (15, .int x15)]) (fun _ => rfl) ?_
          refine q_pick [] [] [] (fun _ => [(0, .ref (qb Y)), (1, .ref (xad (qX Y) 0)), (4, .int x4), (9, .long x9), (13, .int x13), (14, .int x14), (15, .int x15)]) (fun _ => [.int (0 : Int32)]) rfl rfl (by decide) rfl (fun _ => rfl) (fun _ => rfl) ?_
          cases h
          exact hE _ _ _ _ dL_law_1478
        · refine q_sub [0, 1, 2, 3, 4, 5, 6, 7, 8] (fun b => [(0, .ref (qb Y)), (1, .ref (xad (qX Y) 0)), (2, .ref (b 0)), (3, .ref (b 1)), (4, .int x4), (5, .ref (b 2)), (6, .ref (b 3)), (9, .long x9), (13, .int x13)]) (fun _ => rfl) ?_
          exact jL_law_1414 hE rl1101 hr1101 σ247 _ A0 A1 A2 A3 x4 x9 x13 h
noncomputable def FL_law_1321 (L : Nat) (xs : Nat → Int32) (rl1101 : Mem → Nat → (Nat → Int32) → (Nat → Int32) → (Nat → Int32) → (Nat → Int64) → Int32 → Int64 → Int32 → Option (Int32)) (σ : Mem) (n : Nat) (A0 : Nat → Int32) (A1 : Nat → Int32) (A2 : Nat → Int32) (A3 : Nat → Int64) (x4 : Int32) (x9 : Int64) (x13 : Int32) (x14 : Int32) (x15 : Int32) (s0 : Int32) : Option (Int32) :=
  bi (FX8_rows σ x13 x9 (-1 : Int32)) fun r248 σ249 =>
  if r248 = x14 then
  (bi (FX8_rows σ249 x13 x9 (0 : Int32)) fun r250 σ251 =>
  if x14 = 0 then
  (FL_law_1368 L xs rl1101 σ251 n A0 A1 A2 A3 x4 x9 x13 x14 x15 (-9 : Int32) r250)
  else
  (dzI (4 : Int32) <|
  dzI (4 : Int32) <|
  FL_law_1368 L xs rl1101 σ251 n A0 A1 A2 A3 x4 x9 x13 x14 x15 (((10 : Int32) * (s0 / (4 : Int32))) + (s0 - s0 / (4 : Int32) * (4 : Int32))) r250))
  else
  (some (0 : Int32))
set_option maxHeartbeats 4000000 in
set_option maxRecDepth 100000 in
theorem jL_law_1321 {Y : QX} {out : Int32} (hE : ∀ σ2 : Mem, EndQ Y mL_law .ireturn [] (some σ2) [] (fun _ => [.int out])) (rl1101 : Mem → Nat → (Nat → Int32) → (Nat → Int32) → (Nat → Int32) → (Nat → Int64) → Int32 → Int64 → Int32 → Option (Int32)) (hr1101 : ∀ (σ : Mem) (n : Nat) (A0 : Nat → Int32) (A1 : Nat → Int32) (A2 : Nat → Int32) (A3 : Nat → Int64) (x4 : Int32) (x9 : Int64) (x13 : Int32), rl1101 σ n A0 A1 A2 A3 x4 x9 x13 = some out → JQ Y mL_law (some σ) [] [.inl (24, A0), .inl (36, A1), .inl (6, A2), .inr (3, A3)] n 1101 (fun b => [(0, .ref (qb Y)), (1, .ref (xad (qX Y) 0)), (2, .ref (b 0)), (3, .ref (b 1)), (4, .int x4), (5, .ref (b 2)), (6, .ref (b 3)), (9, .long x9), (13, .int x13)]) (fun _ => [])) (σ : Mem) (n : Nat) (A0 : Nat → Int32) (A1 : Nat → Int32) (A2 : Nat → Int32) (A3 : Nat → Int64) (x4 : Int32) (x9 : Int64) (x13 : Int32) (x14 : Int32) (x15 : Int32) (s0 : Int32) (h : FL_law_1321 (qL Y) (qs Y) rl1101 σ n A0 A1 A2 A3 x4 x9 x13 x14 x15 s0 = some out) : JQ Y mL_law (some σ) [] [.inl (24, A0), .inl (36, A1), .inl (6, A2), .inr (3, A3)] n 1321 (fun b => [(0, .ref (qb Y)), (1, .ref (xad (qX Y) 0)), (2, .ref (b 0)), (3, .ref (b 1)), (4, .int x4), (5, .ref (b 2)), (6, .ref (b 3)), (9, .long x9), (13, .int x13), (14, .int x14), (15, .int x15)]) (fun _ => [.int s0]) := by
  refine q_istoreV (fun b => [(16, .int s0), (0, .ref (qb Y)), (1, .ref (xad (qX Y) 0)), (2, .ref (b 0)), (3, .ref (b 1)), (4, .int x4), (5, .ref (b 2)), (6, .ref (b 3)), (9, .long x9), (13, .int x13), (14, .int x14), (15, .int x15)]) dL_law_1321 rfl (show 16 < 27 by decide) (fun _ => rfl) ?_
  refine q_aload_n 2 (fun _ => xad (qX Y) 0) dL_law_1323 rfl rfl (fun _ => rfl) ?_
  refine q_iload 9 dL_law_1324 rfl (fun _ => rfl) ?_
  refine q_lload 8 dL_law_1326 rfl (fun _ => rfl) ?_
  refine q_iconst dL_law_1328 rfl ki_m1 ?_
  obtain ⟨r248, σ249, hc, h⟩ := bi_of h
  refine q_callX [.int x13, .long x9, .int (-1 : Int32)] [] (coX8_rows σ x13 x9 (-1 : Int32) r248 σ249 hc) mv_RL_71 (by decide) rfl rfl (fun _ => rfl) (Nat.le_of_ble_eq_true rfl) dL_law_1329 rfl ?_
  refine q_iload 10 dL_law_1332 rfl (fun _ => rfl) ?_
  refine q_icmp_ne dL_law_1334 rfl rfl h (fun c h => ?_) (fun c h => ?_)
  · refine q_iconst dL_law_1477 rfl ki_0 ?_
    refine q_sub [0, 1, 2, 5, 8, 9, 10, 11] (fun _ => [(16, .int s0), (0, .ref (qb Y)), (1, .ref (xad (qX Y) 0)), (4, .int x4), (9, .long x9), (13, .int x13), (14, .int x14), (15, .int x15)]) (fun _ => rfl) ?_
    refine q_pick [] [] [] (fun _ => [(16, .int s0), (0, .ref (qb Y)), (1, .ref (xad (qX Y) 0)), (4, .int x4), (9, .long x9), (13, .int x13), (14, .int x14), (15, .int x15)]) (fun _ => [.int (0 : Int32)]) rfl rfl (by decide) rfl (fun _ => rfl) (fun _ => rfl) ?_
    cases h
    exact hE _ _ _ _ dL_law_1478
  · refine q_aload_n 2 (fun _ => xad (qX Y) 0) dL_law_1337 rfl rfl (fun _ => rfl) ?_
    refine q_iload 9 dL_law_1338 rfl (fun _ => rfl) ?_
    refine q_lload 8 dL_law_1340 rfl (fun _ => rfl) ?_
    refine q_iconst dL_law_1342 rfl ki_0 ?_
    obtain ⟨r250, σ251, hc, h⟩ := bi_of h
    refine q_callX [.int x13, .long x9, .int (0 : Int32)] [] (coX8_rows σ249 x13 x9 (0 : Int32) r250 σ251 hc) mv_RL_71 (by decide) rfl rfl (fun _ => rfl) (Nat.le_of_ble_eq_true rfl) dL_law_1343 rfl ?_
    refine q_iload 10 dL_law_1346 rfl (fun _ => rfl) ?_
    refine q_if_ne dL_law_1348 rfl rfl h (fun c h => ?_) (fun c h => ?_)
    · refine q_bipush dL_law_1356 rfl kb_10 ?_
      refine q_iload 0 dL_law_1358 rfl (fun _ => rfl) ?_
      refine q_iconst dL_law_1360 rfl ki_4 ?_
      refine q_idiv dL_law_1361 rfl h (fun h => ?_)
      refine q_imul dL_law_1362 rfl ?_
      refine q_iload 0 dL_law_1363 rfl (fun _ => rfl) ?_
      refine q_iconst dL_law_1365 rfl ki_4 ?_
      refine q_irem dL_law_1366 rfl h (fun h => ?_)
      refine q_iadd dL_law_1367 rfl ?_
      refine q_sub [1, 2, 3, 4, 5, 6, 7, 8, 9, 10, 11] (fun b => [(0, .ref (qb Y)), (1, .ref (xad (qX Y) 0)), (2, .ref (b 0)), (3, .ref (b 1)), (4, .int x4), (5, .ref (b 2)), (6, .ref (b 3)), (9, .long x9), (13, .int x13), (14, .int x14), (15, .int x15)]) (fun _ => rfl) ?_
      exact jL_law_1368 hE rl1101 hr1101 σ251 _ A0 A1 A2 A3 x4 x9 x13 x14 x15 (((10 : Int32) * (s0 / (4 : Int32))) + (s0 - s0 / (4 : Int32) * (4 : Int32))) r250 h
    · refine q_bipush dL_law_1351 rfl kb_m9 ?_
      refine q_goto dL_law_1353 rfl ?_
      refine q_sub [1, 2, 3, 4, 5, 6, 7, 8, 9, 10, 11] (fun b => [(0, .ref (qb Y)), (1, .ref (xad (qX Y) 0)), (2, .ref (b 0)), (3, .ref (b 1)), (4, .int x4), (5, .ref (b 2)), (6, .ref (b 3)), (9, .long x9), (13, .int x13), (14, .int x14), (15, .int x15)]) (fun _ => rfl) ?_
      exact jL_law_1368 hE rl1101 hr1101 σ251 _ A0 A1 A2 A3 x4 x9 x13 x14 x15 (-9 : Int32) r250 h
noncomputable def FL_law_1264 (L : Nat) (xs : Nat → Int32) (rl1101 : Mem → Nat → (Nat → Int32) → (Nat → Int32) → (Nat → Int32) → (Nat → Int64) → Int32 → Int64 → Int32 → Option (Int32)) (rl1116 : Mem → Nat → (Nat → Int32) → (Nat → Int32) → (Nat → Int32) → (Nat → Int64) → Int32 → Int64 → Int32 → Int32 → Int32 → Int32 → Option (Int32)) (σ : Mem) (n : Nat) (A0 : Nat → Int32) (A1 : Nat → Int32) (A2 : Nat → Int32) (A3 : Nat → Int64) (x4 : Int32) (x9 : Int64) (x13 : Int32) (x14 : Int32) (x15 : Int32) (x16 : Int32) (x19 : Int64) (x22 : Int32) : Option (Int32) :=
  if x22 = 0 then
  (nm (x16 + (1 : Int32)) fun x_252 =>
  rl1116 σ n A0 A1 A2 A3 x4 x9 x13 x14 x15 x_252)
  else
  (if (lg_cmp x19 x9) = 0 then
  (if x14 = 0 then
  (nm (x14 + (1 : Int32)) fun x_256 =>
  nm (x16 + (1 : Int32)) fun x_257 =>
  rl1116 σ n A0 A1 A2 A3 x4 x9 x13 x_256 x16 x_257)
  else
  (nm (x14 + (1 : Int32)) fun x_254 =>
  nm (x16 + (1 : Int32)) fun x_255 =>
  rl1116 σ n A0 A1 A2 A3 x4 x9 x13 x_254 x15 x_255))
  else
  (nm (x16 + (1 : Int32)) fun x_253 =>
  rl1116 σ n A0 A1 A2 A3 x4 x9 x13 x14 x15 x_253))
set_option maxHeartbeats 4000000 in
set_option maxRecDepth 100000 in
theorem jL_law_1264 {Y : QX} {out : Int32} (hE : ∀ σ2 : Mem, EndQ Y mL_law .ireturn [] (some σ2) [] (fun _ => [.int out])) (rl1101 : Mem → Nat → (Nat → Int32) → (Nat → Int32) → (Nat → Int32) → (Nat → Int64) → Int32 → Int64 → Int32 → Option (Int32)) (hr1101 : ∀ (σ : Mem) (n : Nat) (A0 : Nat → Int32) (A1 : Nat → Int32) (A2 : Nat → Int32) (A3 : Nat → Int64) (x4 : Int32) (x9 : Int64) (x13 : Int32), rl1101 σ n A0 A1 A2 A3 x4 x9 x13 = some out → JQ Y mL_law (some σ) [] [.inl (24, A0), .inl (36, A1), .inl (6, A2), .inr (3, A3)] n 1101 (fun b => [(0, .ref (qb Y)), (1, .ref (xad (qX Y) 0)), (2, .ref (b 0)), (3, .ref (b 1)), (4, .int x4), (5, .ref (b 2)), (6, .ref (b 3)), (9, .long x9), (13, .int x13)]) (fun _ => [])) (rl1116 : Mem → Nat → (Nat → Int32) → (Nat → Int32) → (Nat → Int32) → (Nat → Int64) → Int32 → Int64 → Int32 → Int32 → Int32 → Int32 → Option (Int32)) (hr1116 : ∀ (σ : Mem) (n : Nat) (A0 : Nat → Int32) (A1 : Nat → Int32) (A2 : Nat → Int32) (A3 : Nat → Int64) (x4 : Int32) (x9 : Int64) (x13 : Int32) (x14 : Int32) (x15 : Int32) (x16 : Int32), rl1116 σ n A0 A1 A2 A3 x4 x9 x13 x14 x15 x16 = some out → JQ Y mL_law (some σ) [] [.inl (24, A0), .inl (36, A1), .inl (6, A2), .inr (3, A3)] n 1116 (fun b => [(0, .ref (qb Y)), (1, .ref (xad (qX Y) 0)), (2, .ref (b 0)), (3, .ref (b 1)), (4, .int x4), (5, .ref (b 2)), (6, .ref (b 3)), (9, .long x9), (13, .int x13), (14, .int x14), (15, .int x15), (16, .int x16)]) (fun _ => [])) (σ : Mem) (n : Nat) (A0 : Nat → Int32) (A1 : Nat → Int32) (A2 : Nat → Int32) (A3 : Nat → Int64) (x4 : Int32) (x9 : Int64) (x13 : Int32) (x14 : Int32) (x15 : Int32) (x16 : Int32) (x19 : Int64) (x22 : Int32) (h : FL_law_1264 (qL Y) (qs Y) rl1101 rl1116 σ n A0 A1 A2 A3 x4 x9 x13 x14 x15 x16 x19 x22 = some out) : JQ Y mL_law (some σ) [] [.inl (24, A0), .inl (36, A1), .inl (6, A2), .inr (3, A3)] n 1264 (fun b => [(0, .ref (qb Y)), (1, .ref (xad (qX Y) 0)), (2, .ref (b 0)), (3, .ref (b 1)), (4, .int x4), (5, .ref (b 2)), (6, .ref (b 3)), (9, .long x9), (13, .int x13), (14, .int x14), (15, .int x15), (16, .int x16), (19, .long x19), (22, .int x22)]) (fun _ => []) := by
  refine q_iload 13 dL_law_1264 rfl (fun _ => rfl) ?_
  refine q_if_eq dL_law_1266 rfl rfl h (fun c h => ?_) (fun c h => ?_)
  · refine q_iinc 11 (fun x_252 => (fun b => [(16, .int x_252), (0, .ref (qb Y)), (1, .ref (xad (qX Y) 0)), (2, .ref (b 0)), (3, .ref (b 1)), (4, .int x4), (5, .ref (b 2)), (6, .ref (b 3)), (9, .long x9), (13, .int x13), (14, .int x14), (15, .int x15), (19, .long x19), (22, .int x22)])) dL_law_1294 rfl (fun _ => rfl) ki_1 (show 16 < 27 by decide) (fun _ _ => rfl) h (fun x_252 h => ?_)
    refine q_goto dL_law_1297 rfl ?_
    refine q_sub [1, 2, 3, 4, 5, 6, 7, 8, 9, 10, 11, 0] (fun b => [(0, .ref (qb Y)), (1, .ref (xad (qX Y) 0)), (2, .ref (b 0)), (3, .ref (b 1)), (4, .int x4), (5, .ref (b 2)), (6, .ref (b 3)), (9, .long x9), (13, .int x13), (14, .int x14), (15, .int x15), (16, .int x_252)]) (fun _ => rfl) ?_
    exact hr1116 σ _ A0 A1 A2 A3 x4 x9 x13 x14 x15 x_252 h
  · refine q_lload 12 dL_law_1269 rfl (fun _ => rfl) ?_
    refine q_lload 7 dL_law_1271 rfl (fun _ => rfl) ?_
    refine q_lcmp dL_law_1273 rfl ?_
    refine q_if_ne dL_law_1274 rfl rfl h (fun c h => ?_) (fun c h => ?_)
    · refine q_iinc 11 (fun x_253 => (fun b => [(16, .int x_253), (0, .ref (qb Y)), (1, .ref (xad (qX Y) 0)), (2, .ref (b 0)), (3, .ref (b 1)), (4, .int x4), (5, .ref (b 2)), (6, .ref (b 3)), (9, .long x9), (13, .int x13), (14, .int x14), (15, .int x15), (19, .long x19), (22, .int x22)])) dL_law_1294 rfl (fun _ => rfl) ki_1 (show 16 < 27 by decide) (fun _ _ => rfl) h (fun x_253 h => ?_)
      refine q_goto dL_law_1297 rfl ?_
      refine q_sub [1, 2, 3, 4, 5, 6, 7, 8, 9, 10, 11, 0] (fun b => [(0, .ref (qb Y)), (1, .ref (xad (qX Y) 0)), (2, .ref (b 0)), (3, .ref (b 1)), (4, .int x4), (5, .ref (b 2)), (6, .ref (b 3)), (9, .long x9), (13, .int x13), (14, .int x14), (15, .int x15), (16, .int x_253)]) (fun _ => rfl) ?_
      exact hr1116 σ _ A0 A1 A2 A3 x4 x9 x13 x14 x15 x_253 h
    · refine q_iload 9 dL_law_1277 rfl (fun _ => rfl) ?_
      refine q_if_ne dL_law_1279 rfl rfl h (fun c h => ?_) (fun c h => ?_)
      · refine q_iload 10 dL_law_1287 rfl (fun _ => rfl) ?_
        refine q_istoreV (fun b => [(15, .int x15), (0, .ref (qb Y)), (1, .ref (xad (qX Y) 0)), (2, .ref (b 0)), (3, .ref (b 1)), (4, .int x4), (5, .ref (b 2)), (6, .ref (b 3)), (9, .long x9), (13, .int x13), (14, .int x14), (16, .int x16), (19, .long x19), (22, .int x22)]) dL_law_1289 rfl (show 15 < 27 by decide) (fun _ => rfl) ?_
        refine q_iinc 10 (fun x_254 => (fun b => [(14, .int x_254), (15, .int x15), (0, .ref (qb Y)), (1, .ref (xad (qX Y) 0)), (2, .ref (b 0)), (3, .ref (b 1)), (4, .int x4), (5, .ref (b 2)), (6, .ref (b 3)), (9, .long x9), (13, .int x13), (16, .int x16), (19, .long x19), (22, .int x22)])) dL_law_1291 rfl (fun _ => rfl) ki_1 (show 14 < 27 by decide) (fun _ _ => rfl) h (fun x_254 h => ?_)
        refine q_iinc 11 (fun x_255 => (fun b => [(16, .int x_255), (14, .int x_254), (15, .int x15), (0, .ref (qb Y)), (1, .ref (xad (qX Y) 0)), (2, .ref (b 0)), (3, .ref (b 1)), (4, .int x4), (5, .ref (b 2)), (6, .ref (b 3)), (9, .long x9), (13, .int x13), (19, .long x19), (22, .int x22)])) dL_law_1294 rfl (fun _ => rfl) ki_1 (show 16 < 27 by decide) (fun _ _ => rfl) h (fun x_255 h => ?_)
        refine q_goto dL_law_1297 rfl ?_
        refine q_sub [3, 4, 5, 6, 7, 8, 9, 10, 11, 1, 2, 0] (fun b => [(0, .ref (qb Y)), (1, .ref (xad (qX Y) 0)), (2, .ref (b 0)), (3, .ref (b 1)), (4, .int x4), (5, .ref (b 2)), (6, .ref (b 3)), (9, .long x9), (13, .int x13), (14, .int x_254), (15, .int x15), (16, .int x_255)]) (fun _ => rfl) ?_
        exact hr1116 σ _ A0 A1 A2 A3 x4 x9 x13 x_254 x15 x_255 h
      · refine q_iload 11 dL_law_1282 rfl (fun _ => rfl) ?_
        refine q_goto dL_law_1284 rfl ?_
        refine q_istoreV (fun b => [(15, .int x16), (0, .ref (qb Y)), (1, .ref (xad (qX Y) 0)), (2, .ref (b 0)), (3, .ref (b 1)), (4, .int x4), (5, .ref (b 2)), (6, .ref (b 3)), (9, .long x9), (13, .int x13), (14, .int x14), (16, .int x16), (19, .long x19), (22, .int x22)]) dL_law_1289 rfl (show 15 < 27 by decide) (fun _ => rfl) ?_
        refine q_iinc 10 (fun x_256 => (fun b => [(14, .int x_256), (15, .int x16), (0, .ref (qb Y)), (1, .ref (xad (qX Y) 0)), (2, .ref (b 0)), (3, .ref (b 1)), (4, .int x4), (5, .ref (b 2)), (6, .ref (b 3)), (9, .long x9), (13, .int x13), (16, .int x16), (19, .long x19), (22, .int x22)])) dL_law_1291 rfl (fun _ => rfl) ki_1 (show 14 < 27 by decide) (fun _ _ => rfl) h (fun x_256 h => ?_)
        refine q_iinc 11 (fun x_257 => (fun b => [(16, .int x_257), (14, .int x_256), (15, .int x16), (0, .ref (qb Y)), (1, .ref (xad (qX Y) 0)), (2, .ref (b 0)), (3, .ref (b 1)), (4, .int x4), (5, .ref (b 2)), (6, .ref (b 3)), (9, .long x9), (13, .int x13), (19, .long x19), (22, .int x22)])) dL_law_1294 rfl (fun _ => rfl) ki_1 (show 16 < 27 by decide) (fun _ _ => rfl) h (fun x_257 h => ?_)
        refine q_goto dL_law_1297 rfl ?_
        refine q_sub [3, 4, 5, 6, 7, 8, 9, 10, 11, 1, 2, 0] (fun b => [(0, .ref (qb Y)), (1, .ref (xad (qX Y) 0)), (2, .ref (b 0)), (3, .ref (b 1)), (4, .int x4), (5, .ref (b 2)), (6, .ref (b 3)), (9, .long x9), (13, .int x13), (14, .int x_256), (15, .int x16), (16, .int x_257)]) (fun _ => rfl) ?_
        exact hr1116 σ _ A0 A1 A2 A3 x4 x9 x13 x_256 x16 x_257 h
noncomputable def FL_law_1253 (L : Nat) (xs : Nat → Int32) (rl1101 : Mem → Nat → (Nat → Int32) → (Nat → Int32) → (Nat → Int32) → (Nat → Int64) → Int32 → Int64 → Int32 → Option (Int32)) (rl1116 : Mem → Nat → (Nat → Int32) → (Nat → Int32) → (Nat → Int32) → (Nat → Int64) → Int32 → Int64 → Int32 → Int32 → Int32 → Int32 → Option (Int32)) (σ : Mem) (n : Nat) (A0 : Nat → Int32) (A1 : Nat → Int32) (A2 : Nat → Int32) (A3 : Nat → Int64) (A4 : Nat → Int64) (x4 : Int32) (x9 : Int64) (x13 : Int32) (x14 : Int32) (x15 : Int32) (x16 : Int32) (x19 : Int64) (s0 : Int32) : Option (Int32) :=
  rd (1 : Int32) 3 fun j258 =>
  nm (x19 ||| (A4 j258)) fun x_259 =>
  FL_law_1264 L xs rl1101 rl1116 σ n A0 A1 A2 A3 x4 x9 x13 x14 x15 x16 x_259 s0
set_option maxHeartbeats 4000000 in
set_option maxRecDepth 100000 in
theorem jL_law_1253 {Y : QX} {out : Int32} (hE : ∀ σ2 : Mem, EndQ Y mL_law .ireturn [] (some σ2) [] (fun _ => [.int out])) (rl1101 : Mem → Nat → (Nat → Int32) → (Nat → Int32) → (Nat → Int32) → (Nat → Int64) → Int32 → Int64 → Int32 → Option (Int32)) (hr1101 : ∀ (σ : Mem) (n : Nat) (A0 : Nat → Int32) (A1 : Nat → Int32) (A2 : Nat → Int32) (A3 : Nat → Int64) (x4 : Int32) (x9 : Int64) (x13 : Int32), rl1101 σ n A0 A1 A2 A3 x4 x9 x13 = some out → JQ Y mL_law (some σ) [] [.inl (24, A0), .inl (36, A1), .inl (6, A2), .inr (3, A3)] n 1101 (fun b => [(0, .ref (qb Y)), (1, .ref (xad (qX Y) 0)), (2, .ref (b 0)), (3, .ref (b 1)), (4, .int x4), (5, .ref (b 2)), (6, .ref (b 3)), (9, .long x9), (13, .int x13)]) (fun _ => [])) (rl1116 : Mem → Nat → (Nat → Int32) → (Nat → Int32) → (Nat → Int32) → (Nat → Int64) → Int32 → Int64 → Int32 → Int32 → Int32 → Int32 → Option (Int32)) (hr1116 : ∀ (σ : Mem) (n : Nat) (A0 : Nat → Int32) (A1 : Nat → Int32) (A2 : Nat → Int32) (A3 : Nat → Int64) (x4 : Int32) (x9 : Int64) (x13 : Int32) (x14 : Int32) (x15 : Int32) (x16 : Int32), rl1116 σ n A0 A1 A2 A3 x4 x9 x13 x14 x15 x16 = some out → JQ Y mL_law (some σ) [] [.inl (24, A0), .inl (36, A1), .inl (6, A2), .inr (3, A3)] n 1116 (fun b => [(0, .ref (qb Y)), (1, .ref (xad (qX Y) 0)), (2, .ref (b 0)), (3, .ref (b 1)), (4, .int x4), (5, .ref (b 2)), (6, .ref (b 3)), (9, .long x9), (13, .int x13), (14, .int x14), (15, .int x15), (16, .int x16)]) (fun _ => [])) (σ : Mem) (n : Nat) (A0 : Nat → Int32) (A1 : Nat → Int32) (A2 : Nat → Int32) (A3 : Nat → Int64) (A4 : Nat → Int64) (x4 : Int32) (x9 : Int64) (x13 : Int32) (x14 : Int32) (x15 : Int32) (x16 : Int32) (x19 : Int64) (s0 : Int32) (h : FL_law_1253 (qL Y) (qs Y) rl1101 rl1116 σ n A0 A1 A2 A3 A4 x4 x9 x13 x14 x15 x16 x19 s0 = some out) : JQ Y mL_law (some σ) [] [.inl (24, A0), .inl (36, A1), .inl (6, A2), .inr (3, A3), .inr (3, A4)] n 1253 (fun b => [(0, .ref (qb Y)), (1, .ref (xad (qX Y) 0)), (2, .ref (b 0)), (3, .ref (b 1)), (4, .int x4), (5, .ref (b 2)), (6, .ref (b 3)), (9, .long x9), (13, .int x13), (14, .int x14), (15, .int x15), (16, .int x16), (18, .ref (b 4)), (19, .long x19)]) (fun _ => [.int s0]) := by
  refine q_istoreV (fun b => [(22, .int s0), (0, .ref (qb Y)), (1, .ref (xad (qX Y) 0)), (2, .ref (b 0)), (3, .ref (b 1)), (4, .int x4), (5, .ref (b 2)), (6, .ref (b 3)), (9, .long x9), (13, .int x13), (14, .int x14), (15, .int x15), (16, .int x16), (18, .ref (b 4)), (19, .long x19)]) dL_law_1253 rfl (show 22 < 27 by decide) (fun _ => rfl) ?_
  refine q_lload 14 dL_law_1255 rfl (fun _ => rfl) ?_
  refine q_aload 13 (fun b => b 4) dL_law_1257 rfl (fun _ => rfl) ?_
  refine q_iconst dL_law_1259 rfl ki_1 ?_
  refine q_lald 4 3 A4 rfl dL_law_1260 rfl h (fun j258 h => ?_)
  refine q_lor dL_law_1261 rfl ?_
  refine q_lstore (fun x_259 => (fun b => [(19, .long x_259), (22, .int s0), (0, .ref (qb Y)), (1, .ref (xad (qX Y) 0)), (2, .ref (b 0)), (3, .ref (b 1)), (4, .int x4), (5, .ref (b 2)), (6, .ref (b 3)), (9, .long x9), (13, .int x13), (14, .int x14), (15, .int x15), (16, .int x16), (18, .ref (b 4))])) dL_law_1262 rfl (show 19 + 1 < 27 by decide) (fun _ _ => rfl) h (fun x_259 h => ?_)
  refine q_sub [2, 3, 4, 5, 6, 7, 8, 9, 10, 11, 12, 13, 0, 1] (fun b => [(0, .ref (qb Y)), (1, .ref (xad (qX Y) 0)), (2, .ref (b 0)), (3, .ref (b 1)), (4, .int x4), (5, .ref (b 2)), (6, .ref (b 3)), (9, .long x9), (13, .int x13), (14, .int x14), (15, .int x15), (16, .int x16), (19, .long x_259), (22, .int s0)]) (fun _ => rfl) ?_
  refine q_pick [0, 1, 2, 3] [.inl (24, A0), .inl (36, A1), .inl (6, A2), .inr (3, A3)] [] (fun b => [(0, .ref (qb Y)), (1, .ref (xad (qX Y) 0)), (2, .ref (b 0)), (3, .ref (b 1)), (4, .int x4), (5, .ref (b 2)), (6, .ref (b 3)), (9, .long x9), (13, .int x13), (14, .int x14), (15, .int x15), (16, .int x16), (19, .long x_259), (22, .int s0)]) (fun _ => []) rfl rfl (by decide) rfl (fun _ => rfl) (fun _ => rfl) ?_
  exact jL_law_1264 hE rl1101 hr1101 rl1116 hr1116 σ _ A0 A1 A2 A3 x4 x9 x13 x14 x15 x16 x_259 s0 h
noncomputable def FL_law_1203 (L : Nat) (xs : Nat → Int32) (rl1101 : Mem → Nat → (Nat → Int32) → (Nat → Int32) → (Nat → Int32) → (Nat → Int64) → Int32 → Int64 → Int32 → Option (Int32)) (rl1116 : Mem → Nat → (Nat → Int32) → (Nat → Int32) → (Nat → Int32) → (Nat → Int64) → Int32 → Int64 → Int32 → Int32 → Int32 → Int32 → Option (Int32)) (σ : Mem) (n : Nat) (A0 : Nat → Int32) (A1 : Nat → Int32) (A2 : Nat → Int32) (A3 : Nat → Int64) (A4 : Nat → Int32) (A5 : Nat → Int64) (x4 : Int32) (x9 : Int64) (x13 : Int32) (x14 : Int32) (x15 : Int32) (x16 : Int32) (x19 : Int64) (s0 : Int32) : Option (Int32) :=
  rd (1 : Int32) 3 fun j260 =>
  nm (x19 ||| (A5 j260)) fun x_261 =>
  if x13 = (2 : Int32) then
  (if s0 = 0 then
  (FL_law_1264 L xs rl1101 rl1116 σ n A0 A1 A2 A3 x4 x9 x13 x14 x15 x16 x_261 s0)
  else
  (dzI x4 <|
  dzI (4 : Int32) <|
  dzI (4 : Int32) <|
  bn (FL_push A0 A1 A4 A5 ((x16 - x16 / x4 * x4) / (4 : Int32)) (x16 - x16 / (4 : Int32) * (4 : Int32))) fun o262 =>
  if o262.1 < 0 then
  (FL_law_1253 L xs rl1101 rl1116 σ n A0 A1 A2 A3 o262.2.2 x4 x9 x13 x14 x15 x16 x_261 (0 : Int32))
  else
  (FL_law_1253 L xs rl1101 rl1116 σ n A0 A1 A2 A3 o262.2.2 x4 x9 x13 x14 x15 x16 x_261 (1 : Int32))))
  else
  (FL_law_1264 L xs rl1101 rl1116 σ n A0 A1 A2 A3 x4 x9 x13 x14 x15 x16 x_261 s0)
set_option maxHeartbeats 4000000 in
set_option maxRecDepth 100000 in
theorem jL_law_1203 {Y : QX} {out : Int32} (hE : ∀ σ2 : Mem, EndQ Y mL_law .ireturn [] (some σ2) [] (fun _ => [.int out])) (rl1101 : Mem → Nat → (Nat → Int32) → (Nat → Int32) → (Nat → Int32) → (Nat → Int64) → Int32 → Int64 → Int32 → Option (Int32)) (hr1101 : ∀ (σ : Mem) (n : Nat) (A0 : Nat → Int32) (A1 : Nat → Int32) (A2 : Nat → Int32) (A3 : Nat → Int64) (x4 : Int32) (x9 : Int64) (x13 : Int32), rl1101 σ n A0 A1 A2 A3 x4 x9 x13 = some out → JQ Y mL_law (some σ) [] [.inl (24, A0), .inl (36, A1), .inl (6, A2), .inr (3, A3)] n 1101 (fun b => [(0, .ref (qb Y)), (1, .ref (xad (qX Y) 0)), (2, .ref (b 0)), (3, .ref (b 1)), (4, .int x4), (5, .ref (b 2)), (6, .ref (b 3)), (9, .long x9), (13, .int x13)]) (fun _ => [])) (rl1116 : Mem → Nat → (Nat → Int32) → (Nat → Int32) → (Nat → Int32) → (Nat → Int64) → Int32 → Int64 → Int32 → Int32 → Int32 → Int32 → Option (Int32)) (hr1116 : ∀ (σ : Mem) (n : Nat) (A0 : Nat → Int32) (A1 : Nat → Int32) (A2 : Nat → Int32) (A3 : Nat → Int64) (x4 : Int32) (x9 : Int64) (x13 : Int32) (x14 : Int32) (x15 : Int32) (x16 : Int32), rl1116 σ n A0 A1 A2 A3 x4 x9 x13 x14 x15 x16 = some out → JQ Y mL_law (some σ) [] [.inl (24, A0), .inl (36, A1), .inl (6, A2), .inr (3, A3)] n 1116 (fun b => [(0, .ref (qb Y)), (1, .ref (xad (qX Y) 0)), (2, .ref (b 0)), (3, .ref (b 1)), (4, .int x4), (5, .ref (b 2)), (6, .ref (b 3)), (9, .long x9), (13, .int x13), (14, .int x14), (15, .int x15), (16, .int x16)]) (fun _ => [])) (σ : Mem) (n : Nat) (A0 : Nat → Int32) (A1 : Nat → Int32) (A2 : Nat → Int32) (A3 : Nat → Int64) (A4 : Nat → Int32) (A5 : Nat → Int64) (x4 : Int32) (x9 : Int64) (x13 : Int32) (x14 : Int32) (x15 : Int32) (x16 : Int32) (x19 : Int64) (s0 : Int32) (h : FL_law_1203 (qL Y) (qs Y) rl1101 rl1116 σ n A0 A1 A2 A3 A4 A5 x4 x9 x13 x14 x15 x16 x19 s0 = some out) : JQ Y mL_law (some σ) [] [.inl (24, A0), .inl (36, A1), .inl (6, A2), .inr (3, A3), .inl (6, A4), .inr (3, A5)] n 1203 (fun b => [(0, .ref (qb Y)), (1, .ref (xad (qX Y) 0)), (2, .ref (b 0)), (3, .ref (b 1)), (4, .int x4), (5, .ref (b 2)), (6, .ref (b 3)), (9, .long x9), (13, .int x13), (14, .int x14), (15, .int x15), (16, .int x16), (17, .ref (b 4)), (18, .ref (b 5)), (19, .long x19)]) (fun _ => [.int s0]) := by
  refine q_istoreV (fun b => [(22, .int s0), (0, .ref (qb Y)), (1, .ref (xad (qX Y) 0)), (2, .ref (b 0)), (3, .ref (b 1)), (4, .int x4), (5, .ref (b 2)), (6, .ref (b 3)), (9, .long x9), (13, .int x13), (14, .int x14), (15, .int x15), (16, .int x16), (17, .ref (b 4)), (18, .ref (b 5)), (19, .long x19)]) dL_law_1203 rfl (show 22 < 27 by decide) (fun _ => rfl) ?_
  refine q_lload 15 dL_law_1205 rfl (fun _ => rfl) ?_
  refine q_aload 14 (fun b => b 5) dL_law_1207 rfl (fun _ => rfl) ?_
  refine q_iconst dL_law_1209 rfl ki_1 ?_
  refine q_lald 5 3 A5 rfl dL_law_1210 rfl h (fun j260 h => ?_)
  refine q_lor dL_law_1211 rfl ?_
  refine q_lstore (fun x_261 => (fun b => [(19, .long x_261), (22, .int s0), (0, .ref (qb Y)), (1, .ref (xad (qX Y) 0)), (2, .ref (b 0)), (3, .ref (b 1)), (4, .int x4), (5, .ref (b 2)), (6, .ref (b 3)), (9, .long x9), (13, .int x13), (14, .int x14), (15, .int x15), (16, .int x16), (17, .ref (b 4)), (18, .ref (b 5))])) dL_law_1212 rfl (show 19 + 1 < 27 by decide) (fun _ _ => rfl) h (fun x_261 h => ?_)
  refine q_iload 10 dL_law_1214 rfl (fun _ => rfl) ?_
  refine q_iconst dL_law_1216 rfl ki_2 ?_
  refine q_icmp_ne dL_law_1217 rfl rfl h (fun c h => ?_) (fun c h => ?_)
  · refine q_sub [2, 3, 4, 5, 6, 7, 8, 9, 10, 11, 12, 13, 0, 1] (fun b => [(0, .ref (qb Y)), (1, .ref (xad (qX Y) 0)), (2, .ref (b 0)), (3, .ref (b 1)), (4, .int x4), (5, .ref (b 2)), (6, .ref (b 3)), (9, .long x9), (13, .int x13), (14, .int x14), (15, .int x15), (16, .int x16), (19, .long x_261), (22, .int s0)]) (fun _ => rfl) ?_
    refine q_pick [0, 1, 2, 3] [.inl (24, A0), .inl (36, A1), .inl (6, A2), .inr (3, A3)] [] (fun b => [(0, .ref (qb Y)), (1, .ref (xad (qX Y) 0)), (2, .ref (b 0)), (3, .ref (b 1)), (4, .int x4), (5, .ref (b 2)), (6, .ref (b 3)), (9, .long x9), (13, .int x13), (14, .int x14), (15, .int x15), (16, .int x16), (19, .long x_261), (22, .int s0)]) (fun _ => []) rfl rfl (by decide) rfl (fun _ => rfl) (fun _ => rfl) ?_
    exact jL_law_1264 hE rl1101 hr1101 rl1116 hr1116 σ _ A0 A1 A2 A3 x4 x9 x13 x14 x15 x16 x_261 s0 h
  · refine q_iload 1 dL_law_1220 rfl (fun _ => rfl) ?_
    refine q_if_eq dL_law_1222 rfl rfl h (fun c h => ?_) (fun c h => ?_)
    · refine q_sub [2, 3, 4, 5, 6, 7, 8, 9, 10, 11, 12, 13, 0, 1] (fun b => [(0, .ref (qb Y)), (1, .ref (xad (qX Y) 0)), (2, .ref (b 0)), (3, .ref (b 1)), (4, .int x4), (5, .ref (b 2)), (6, .ref (b 3)), (9, .long x9), (13, .int x13), (14, .int x14), (15, .int x15), (16, .int x16), (19, .long x_261), (22, .int s0)]) (fun _ => rfl) ?_
      refine q_pick [0, 1, 2, 3] [.inl (24, A0), .inl (36, A1), .inl (6, A2), .inr (3, A3)] [] (fun b => [(0, .ref (qb Y)), (1, .ref (xad (qX Y) 0)), (2, .ref (b 0)), (3, .ref (b 1)), (4, .int x4), (5, .ref (b 2)), (6, .ref (b 3)), (9, .long x9), (13, .int x13), (14, .int x14), (15, .int x15), (16, .int x16), (19, .long x_261), (22, .int s0)]) (fun _ => []) rfl rfl (by decide) rfl (fun _ => rfl) (fun _ => rfl) ?_
      exact jL_law_1264 hE rl1101 hr1101 rl1116 hr1116 σ _ A0 A1 A2 A3 x4 x9 x13 x14 x15 x16 x_261 s0 h
    · refine q_aload_n 4 (fun b => b 0) dL_law_1225 rfl rfl (fun _ => rfl) ?_
      refine q_aload_n 5 (fun b => b 1) dL_law_1226 rfl rfl (fun _ => rfl) ?_
      refine q_aload 14 (fun b => b 4) dL_law_1227 rfl (fun _ => rfl) ?_
      refine q_aload 15 (fun b => b 5) dL_law_1229 rfl (fun _ => rfl) ?_
      refine q_iload 13 dL_law_1231 rfl (fun _ => rfl) ?_
      refine q_iload 6 dL_law_1233 rfl (fun _ => rfl) ?_
      refine q_irem dL_law_1235 rfl h (fun h => ?_)
      refine q_iconst dL_law_1236 rfl ki_4 ?_
      refine q_idiv dL_law_1237 rfl h (fun h => ?_)
      refine q_iload 13 dL_law_1238 rfl (fun _ => rfl) ?_
      refine q_iconst dL_law_1240 rfl ki_4 ?_
      refine q_irem dL_law_1241 rfl h (fun h => ?_)
      refine q_pick [2, 3, 0, 1, 4, 5] [.inl (6, A2), .inr (3, A3), .inl (24, A0), .inl (36, A1), .inl (6, A4), .inr (3, A5)] [] (fun b => [(19, .long x_261), (22, .int s0), (0, .ref (qb Y)), (1, .ref (xad (qX Y) 0)), (2, .ref (b 2)), (3, .ref (b 3)), (4, .int x4), (5, .ref (b 0)), (6, .ref (b 1)), (9, .long x9), (13, .int x13), (14, .int x14), (15, .int x15), (16, .int x16), (17, .ref (b 4)), (18, .ref (b 5))]) (fun b => [.int (x16 - x16 / (4 : Int32) * (4 : Int32)), .int ((x16 - x16 / x4 * x4) / (4 : Int32)), .ref (b 5), .ref (b 4), .ref (b 3), .ref (b 2)]) rfl rfl (by decide) rfl (fun _ => rfl) (fun _ => rfl) ?_
      obtain ⟨o262, hc, h⟩ := bn_of h
      refine q_call [.inl (6, A2), .inr (3, A3)] 2 (fun b => [.ref (b 2), .ref (b 3), .ref (b 4), .ref (b 5), .int ((x16 - x16 / x4 * x4) / (4 : Int32)), .int (x16 - x16 / (4 : Int32) * (4 : Int32))]) (fun _ => []) (coL_push A0 A1 A4 A5 ((x16 - x16 / x4 * x4) / (4 : Int32)) (x16 - x16 / (4 : Int32) * (4 : Int32)) o262 hc) rfl rfl rfl ms_RL_47 (by decide) (Or.inl rfl) (fun _ => rfl) (fun _ => rfl) (fun _ => rfl) (fun _ => Nat.le_of_ble_eq_true rfl) dL_law_1242 rfl ?_
      show JQ Y mL_law (some σ) [] [.inl (6, A2), .inr (3, A3), .inl (24, A0), .inl (36, A1), .inl (6, o262.2.1), .inr (3, o262.2.2)] _ 1245 (fun b => [(19, .long x_261), (22, .int s0), (0, .ref (qb Y)), (1, .ref (xad (qX Y) 0)), (2, .ref (b 2)), (3, .ref (b 3)), (4, .int x4), (5, .ref (b 0)), (6, .ref (b 1)), (9, .long x9), (13, .int x13), (14, .int x14), (15, .int x15), (16, .int x16), (17, .ref (b 4)), (18, .ref (b 5))]) (fun _ => [.int o262.1])
      refine q_if_lt dL_law_1245 rfl rfl h (fun c h => ?_) (fun c h => ?_)
      · refine q_iconst dL_law_1252 rfl ki_0 ?_
        refine q_sub [2, 3, 4, 5, 6, 7, 8, 9, 10, 11, 12, 13, 15, 0] (fun b => [(0, .ref (qb Y)), (1, .ref (xad (qX Y) 0)), (2, .ref (b 2)), (3, .ref (b 3)), (4, .int x4), (5, .ref (b 0)), (6, .ref (b 1)), (9, .long x9), (13, .int x13), (14, .int x14), (15, .int x15), (16, .int x16), (18, .ref (b 5)), (19, .long x_261)]) (fun _ => rfl) ?_
        refine q_pick [2, 3, 0, 1, 5] [.inl (24, A0), .inl (36, A1), .inl (6, A2), .inr (3, A3), .inr (3, o262.2.2)] [] (fun b => [(0, .ref (qb Y)), (1, .ref (xad (qX Y) 0)), (2, .ref (b 0)), (3, .ref (b 1)), (4, .int x4), (5, .ref (b 2)), (6, .ref (b 3)), (9, .long x9), (13, .int x13), (14, .int x14), (15, .int x15), (16, .int x16), (18, .ref (b 4)), (19, .long x_261)]) (fun _ => [.int (0 : Int32)]) rfl rfl (by decide) rfl (fun _ => rfl) (fun _ => rfl) ?_
        exact jL_law_1253 hE rl1101 hr1101 rl1116 hr1116 σ _ A0 A1 A2 A3 o262.2.2 x4 x9 x13 x14 x15 x16 x_261 (0 : Int32) h
      · refine q_iconst dL_law_1248 rfl ki_1 ?_
        refine q_goto dL_law_1249 rfl ?_
        refine q_sub [2, 3, 4, 5, 6, 7, 8, 9, 10, 11, 12, 13, 15, 0] (fun b => [(0, .ref (qb Y)), (1, .ref (xad (qX Y) 0)), (2, .ref (b 2)), (3, .ref (b 3)), (4, .int x4), (5, .ref (b 0)), (6, .ref (b 1)), (9, .long x9), (13, .int x13), (14, .int x14), (15, .int x15), (16, .int x16), (18, .ref (b 5)), (19, .long x_261)]) (fun _ => rfl) ?_
        refine q_pick [2, 3, 0, 1, 5] [.inl (24, A0), .inl (36, A1), .inl (6, A2), .inr (3, A3), .inr (3, o262.2.2)] [] (fun b => [(0, .ref (qb Y)), (1, .ref (xad (qX Y) 0)), (2, .ref (b 0)), (3, .ref (b 1)), (4, .int x4), (5, .ref (b 2)), (6, .ref (b 3)), (9, .long x9), (13, .int x13), (14, .int x14), (15, .int x15), (16, .int x16), (18, .ref (b 4)), (19, .long x_261)]) (fun _ => [.int (1 : Int32)]) rfl rfl (by decide) rfl (fun _ => rfl) (fun _ => rfl) ?_
        exact jL_law_1253 hE rl1101 hr1101 rl1116 hr1116 σ _ A0 A1 A2 A3 o262.2.2 x4 x9 x13 x14 x15 x16 x_261 (1 : Int32) h
noncomputable def FL_law_1176 (L : Nat) (xs : Nat → Int32) (rl1101 : Mem → Nat → (Nat → Int32) → (Nat → Int32) → (Nat → Int32) → (Nat → Int64) → Int32 → Int64 → Int32 → Option (Int32)) (rl1116 : Mem → Nat → (Nat → Int32) → (Nat → Int32) → (Nat → Int32) → (Nat → Int64) → Int32 → Int64 → Int32 → Int32 → Int32 → Int32 → Option (Int32)) (σ : Mem) (n : Nat) (A0 : Nat → Int32) (A1 : Nat → Int32) (A2 : Nat → Int32) (A3 : Nat → Int64) (A4 : Nat → Int32) (A5 : Nat → Int64) (x4 : Int32) (x9 : Int64) (x13 : Int32) (x14 : Int32) (x15 : Int32) (x16 : Int32) (x19 : Int64) (s0 : Int32) : Option (Int32) :=
  dzI (4 : Int32) <|
  dzI (4 : Int32) <|
  bn (FL_push A0 A1 A4 A5 (s0 / (4 : Int32)) (s0 - s0 / (4 : Int32) * (4 : Int32))) fun o263 =>
  if o263.1 < 0 then
  (FL_law_1203 L xs rl1101 rl1116 σ n A0 A1 A2 A3 o263.2.1 o263.2.2 x4 x9 x13 x14 x15 x16 x19 (0 : Int32))
  else
  (FL_law_1203 L xs rl1101 rl1116 σ n A0 A1 A2 A3 o263.2.1 o263.2.2 x4 x9 x13 x14 x15 x16 x19 (1 : Int32))
set_option maxHeartbeats 4000000 in
set_option maxRecDepth 100000 in
theorem jL_law_1176 {Y : QX} {out : Int32} (hE : ∀ σ2 : Mem, EndQ Y mL_law .ireturn [] (some σ2) [] (fun _ => [.int out])) (rl1101 : Mem → Nat → (Nat → Int32) → (Nat → Int32) → (Nat → Int32) → (Nat → Int64) → Int32 → Int64 → Int32 → Option (Int32)) (hr1101 : ∀ (σ : Mem) (n : Nat) (A0 : Nat → Int32) (A1 : Nat → Int32) (A2 : Nat → Int32) (A3 : Nat → Int64) (x4 : Int32) (x9 : Int64) (x13 : Int32), rl1101 σ n A0 A1 A2 A3 x4 x9 x13 = some out → JQ Y mL_law (some σ) [] [.inl (24, A0), .inl (36, A1), .inl (6, A2), .inr (3, A3)] n 1101 (fun b => [(0, .ref (qb Y)), (1, .ref (xad (qX Y) 0)), (2, .ref (b 0)), (3, .ref (b 1)), (4, .int x4), (5, .ref (b 2)), (6, .ref (b 3)), (9, .long x9), (13, .int x13)]) (fun _ => [])) (rl1116 : Mem → Nat → (Nat → Int32) → (Nat → Int32) → (Nat → Int32) → (Nat → Int64) → Int32 → Int64 → Int32 → Int32 → Int32 → Int32 → Option (Int32)) (hr1116 : ∀ (σ : Mem) (n : Nat) (A0 : Nat → Int32) (A1 : Nat → Int32) (A2 : Nat → Int32) (A3 : Nat → Int64) (x4 : Int32) (x9 : Int64) (x13 : Int32) (x14 : Int32) (x15 : Int32) (x16 : Int32), rl1116 σ n A0 A1 A2 A3 x4 x9 x13 x14 x15 x16 = some out → JQ Y mL_law (some σ) [] [.inl (24, A0), .inl (36, A1), .inl (6, A2), .inr (3, A3)] n 1116 (fun b => [(0, .ref (qb Y)), (1, .ref (xad (qX Y) 0)), (2, .ref (b 0)), (3, .ref (b 1)), (4, .int x4), (5, .ref (b 2)), (6, .ref (b 3)), (9, .long x9), (13, .int x13), (14, .int x14), (15, .int x15), (16, .int x16)]) (fun _ => [])) (σ : Mem) (n : Nat) (A0 : Nat → Int32) (A1 : Nat → Int32) (A2 : Nat → Int32) (A3 : Nat → Int64) (A4 : Nat → Int32) (A5 : Nat → Int64) (x4 : Int32) (x9 : Int64) (x13 : Int32) (x14 : Int32) (x15 : Int32) (x16 : Int32) (x19 : Int64) (s0 : Int32) (h : FL_law_1176 (qL Y) (qs Y) rl1101 rl1116 σ n A0 A1 A2 A3 A4 A5 x4 x9 x13 x14 x15 x16 x19 s0 = some out) : JQ Y mL_law (some σ) [] [.inl (24, A0), .inl (36, A1), .inl (6, A2), .inr (3, A3), .inl (6, A4), .inr (3, A5)] n 1176 (fun b => [(0, .ref (qb Y)), (1, .ref (xad (qX Y) 0)), (2, .ref (b 0)), (3, .ref (b 1)), (4, .int x4), (5, .ref (b 2)), (6, .ref (b 3)), (9, .long x9), (13, .int x13), (14, .int x14), (15, .int x15), (16, .int x16), (17, .ref (b 4)), (18, .ref (b 5)), (19, .long x19)]) (fun _ => [.int s0]) := by
  refine q_istoreV (fun b => [(21, .int s0), (0, .ref (qb Y)), (1, .ref (xad (qX Y) 0)), (2, .ref (b 0)), (3, .ref (b 1)), (4, .int x4), (5, .ref (b 2)), (6, .ref (b 3)), (9, .long x9), (13, .int x13), (14, .int x14), (15, .int x15), (16, .int x16), (17, .ref (b 4)), (18, .ref (b 5)), (19, .long x19)]) dL_law_1176 rfl (show 21 < 27 by decide) (fun _ => rfl) ?_
  refine q_aload_n 3 (fun b => b 0) dL_law_1178 rfl rfl (fun _ => rfl) ?_
  refine q_aload_n 4 (fun b => b 1) dL_law_1179 rfl rfl (fun _ => rfl) ?_
  refine q_aload 13 (fun b => b 4) dL_law_1180 rfl (fun _ => rfl) ?_
  refine q_aload 14 (fun b => b 5) dL_law_1182 rfl (fun _ => rfl) ?_
  refine q_iload 0 dL_law_1184 rfl (fun _ => rfl) ?_
  refine q_iconst dL_law_1186 rfl ki_4 ?_
  refine q_idiv dL_law_1187 rfl h (fun h => ?_)
  refine q_iload 0 dL_law_1188 rfl (fun _ => rfl) ?_
  refine q_iconst dL_law_1190 rfl ki_4 ?_
  refine q_irem dL_law_1191 rfl h (fun h => ?_)
  refine q_pick [2, 3, 0, 1, 4, 5] [.inl (6, A2), .inr (3, A3), .inl (24, A0), .inl (36, A1), .inl (6, A4), .inr (3, A5)] [] (fun b => [(21, .int s0), (0, .ref (qb Y)), (1, .ref (xad (qX Y) 0)), (2, .ref (b 2)), (3, .ref (b 3)), (4, .int x4), (5, .ref (b 0)), (6, .ref (b 1)), (9, .long x9), (13, .int x13), (14, .int x14), (15, .int x15), (16, .int x16), (17, .ref (b 4)), (18, .ref (b 5)), (19, .long x19)]) (fun b => [.int (s0 - s0 / (4 : Int32) * (4 : Int32)), .int (s0 / (4 : Int32)), .ref (b 5), .ref (b 4), .ref (b 3), .ref (b 2)]) rfl rfl (by decide) rfl (fun _ => rfl) (fun _ => rfl) ?_
  obtain ⟨o263, hc, h⟩ := bn_of h
  refine q_call [.inl (6, A2), .inr (3, A3)] 2 (fun b => [.ref (b 2), .ref (b 3), .ref (b 4), .ref (b 5), .int (s0 / (4 : Int32)), .int (s0 - s0 / (4 : Int32) * (4 : Int32))]) (fun _ => []) (coL_push A0 A1 A4 A5 (s0 / (4 : Int32)) (s0 - s0 / (4 : Int32) * (4 : Int32)) o263 hc) rfl rfl rfl ms_RL_47 (by decide) (Or.inl rfl) (fun _ => rfl) (fun _ => rfl) (fun _ => rfl) (fun _ => Nat.le_of_ble_eq_true rfl) dL_law_1192 rfl ?_
  show JQ Y mL_law (some σ) [] [.inl (6, A2), .inr (3, A3), .inl (24, A0), .inl (36, A1), .inl (6, o263.2.1), .inr (3, o263.2.2)] _ 1195 (fun b => [(21, .int s0), (0, .ref (qb Y)), (1, .ref (xad (qX Y) 0)), (2, .ref (b 2)), (3, .ref (b 3)), (4, .int x4), (5, .ref (b 0)), (6, .ref (b 1)), (9, .long x9), (13, .int x13), (14, .int x14), (15, .int x15), (16, .int x16), (17, .ref (b 4)), (18, .ref (b 5)), (19, .long x19)]) (fun _ => [.int o263.1])
  refine q_if_lt dL_law_1195 rfl rfl h (fun c h => ?_) (fun c h => ?_)
  · refine q_iconst dL_law_1202 rfl ki_0 ?_
    refine q_sub [1, 2, 3, 4, 5, 6, 7, 8, 9, 10, 11, 12, 13, 14, 15] (fun b => [(0, .ref (qb Y)), (1, .ref (xad (qX Y) 0)), (2, .ref (b 2)), (3, .ref (b 3)), (4, .int x4), (5, .ref (b 0)), (6, .ref (b 1)), (9, .long x9), (13, .int x13), (14, .int x14), (15, .int x15), (16, .int x16), (17, .ref (b 4)), (18, .ref (b 5)), (19, .long x19)]) (fun _ => rfl) ?_
    refine q_pick [2, 3, 0, 1, 4, 5] [.inl (24, A0), .inl (36, A1), .inl (6, A2), .inr (3, A3), .inl (6, o263.2.1), .inr (3, o263.2.2)] [] (fun b => [(0, .ref (qb Y)), (1, .ref (xad (qX Y) 0)), (2, .ref (b 0)), (3, .ref (b 1)), (4, .int x4), (5, .ref (b 2)), (6, .ref (b 3)), (9, .long x9), (13, .int x13), (14, .int x14), (15, .int x15), (16, .int x16), (17, .ref (b 4)), (18, .ref (b 5)), (19, .long x19)]) (fun _ => [.int (0 : Int32)]) rfl rfl (by decide) rfl (fun _ => rfl) (fun _ => rfl) ?_
    exact jL_law_1203 hE rl1101 hr1101 rl1116 hr1116 σ _ A0 A1 A2 A3 o263.2.1 o263.2.2 x4 x9 x13 x14 x15 x16 x19 (0 : Int32) h
  · refine q_iconst dL_law_1198 rfl ki_1 ?_
    refine q_goto dL_law_1199 rfl ?_
    refine q_sub [1, 2, 3, 4, 5, 6, 7, 8, 9, 10, 11, 12, 13, 14, 15] (fun b => [(0, .ref (qb Y)), (1, .ref (xad (qX Y) 0)), (2, .ref (b 2)), (3, .ref (b 3)), (4, .int x4), (5, .ref (b 0)), (6, .ref (b 1)), (9, .long x9), (13, .int x13), (14, .int x14), (15, .int x15), (16, .int x16), (17, .ref (b 4)), (18, .ref (b 5)), (19, .long x19)]) (fun _ => rfl) ?_
    refine q_pick [2, 3, 0, 1, 4, 5] [.inl (24, A0), .inl (36, A1), .inl (6, A2), .inr (3, A3), .inl (6, o263.2.1), .inr (3, o263.2.2)] [] (fun b => [(0, .ref (qb Y)), (1, .ref (xad (qX Y) 0)), (2, .ref (b 0)), (3, .ref (b 1)), (4, .int x4), (5, .ref (b 2)), (6, .ref (b 3)), (9, .long x9), (13, .int x13), (14, .int x14), (15, .int x15), (16, .int x16), (17, .ref (b 4)), (18, .ref (b 5)), (19, .long x19)]) (fun _ => [.int (1 : Int32)]) rfl rfl (by decide) rfl (fun _ => rfl) (fun _ => rfl) ?_
    exact jL_law_1203 hE rl1101 hr1101 rl1116 hr1116 σ _ A0 A1 A2 A3 o263.2.1 o263.2.2 x4 x9 x13 x14 x15 x16 x19 (1 : Int32) h
noncomputable def FL_law_1134 (L : Nat) (xs : Nat → Int32) (rl1101 : Mem → Nat → (Nat → Int32) → (Nat → Int32) → (Nat → Int32) → (Nat → Int64) → Int32 → Int64 → Int32 → Option (Int32)) (rl1116 : Mem → Nat → (Nat → Int32) → (Nat → Int32) → (Nat → Int32) → (Nat → Int64) → Int32 → Int64 → Int32 → Int32 → Int32 → Int32 → Option (Int32)) (σ : Mem) (n : Nat) (A0 : Nat → Int32) (A1 : Nat → Int32) (A2 : Nat → Int32) (A3 : Nat → Int64) (x4 : Int32) (x9 : Int64) (x13 : Int32) (x14 : Int32) (x15 : Int32) (x16 : Int32) (s0 : Int32) (s1 : Int32) : Option (Int32) :=
  if s0 ≤ s1 then
  (if x13 = (1 : Int32) then
  (FL_law_1321 L xs rl1101 σ n A0 A1 A2 A3 x4 x9 x13 x14 x15 x15)
  else
  (if x4 = 0 then
  (FL_law_1321 L xs rl1101 σ n A0 A1 A2 A3 x4 x9 x13 x14 x15 x15)
  else
  (dzI x4 <|
  FL_law_1321 L xs rl1101 σ n A0 A1 A2 A3 x4 x9 x13 x14 x15 (x15 / x4))))
  else
  (bn (FL_copied A2 0) fun o264 =>
  al 600000 n 1 fun n265 =>
  al 600000 n265 1 fun n266 =>
  rd (0 : Int32) 3 fun j267 =>
  stB (0 : Int32) 3 zL (A3 j267) fun f268 =>
  if x13 = (1 : Int32) then
  (FL_law_1176 L xs rl1101 rl1116 σ n266 A0 A1 A2 A3 o264 f268 x4 x9 x13 x14 x15 x16 (0 : Int64) x16)
  else
  (dzI x4 <|
  FL_law_1176 L xs rl1101 rl1116 σ n266 A0 A1 A2 A3 o264 f268 x4 x9 x13 x14 x15 x16 (0 : Int64) (x16 / x4)))
set_option maxHeartbeats 4000000 in
set_option maxRecDepth 100000 in
theorem jL_law_1134 {Y : QX} {out : Int32} (hE : ∀ σ2 : Mem, EndQ Y mL_law .ireturn [] (some σ2) [] (fun _ => [.int out])) (rl1101 : Mem → Nat → (Nat → Int32) → (Nat → Int32) → (Nat → Int32) → (Nat → Int64) → Int32 → Int64 → Int32 → Option (Int32)) (hr1101 : ∀ (σ : Mem) (n : Nat) (A0 : Nat → Int32) (A1 : Nat → Int32) (A2 : Nat → Int32) (A3 : Nat → Int64) (x4 : Int32) (x9 : Int64) (x13 : Int32), rl1101 σ n A0 A1 A2 A3 x4 x9 x13 = some out → JQ Y mL_law (some σ) [] [.inl (24, A0), .inl (36, A1), .inl (6, A2), .inr (3, A3)] n 1101 (fun b => [(0, .ref (qb Y)), (1, .ref (xad (qX Y) 0)), (2, .ref (b 0)), (3, .ref (b 1)), (4, .int x4), (5, .ref (b 2)), (6, .ref (b 3)), (9, .long x9), (13, .int x13)]) (fun _ => [])) (rl1116 : Mem → Nat → (Nat → Int32) → (Nat → Int32) → (Nat → Int32) → (Nat → Int64) → Int32 → Int64 → Int32 → Int32 → Int32 → Int32 → Option (Int32)) (hr1116 : ∀ (σ : Mem) (n : Nat) (A0 : Nat → Int32) (A1 : Nat → Int32) (A2 : Nat → Int32) (A3 : Nat → Int64) (x4 : Int32) (x9 : Int64) (x13 : Int32) (x14 : Int32) (x15 : Int32) (x16 : Int32), rl1116 σ n A0 A1 A2 A3 x4 x9 x13 x14 x15 x16 = some out → JQ Y mL_law (some σ) [] [.inl (24, A0), .inl (36, A1), .inl (6, A2), .inr (3, A3)] n 1116 (fun b => [(0, .ref (qb Y)), (1, .ref (xad (qX Y) 0)), (2, .ref (b 0)), (3, .ref (b 1)), (4, .int x4), (5, .ref (b 2)), (6, .ref (b 3)), (9, .long x9), (13, .int x13), (14, .int x14), (15, .int x15), (16, .int x16)]) (fun _ => [])) (σ : Mem) (n : Nat) (A0 : Nat → Int32) (A1 : Nat → Int32) (A2 : Nat → Int32) (A3 : Nat → Int64) (x4 : Int32) (x9 : Int64) (x13 : Int32) (x14 : Int32) (x15 : Int32) (x16 : Int32) (s0 : Int32) (s1 : Int32) (h : FL_law_1134 (qL Y) (qs Y) rl1101 rl1116 σ n A0 A1 A2 A3 x4 x9 x13 x14 x15 x16 s0 s1 = some out) : JQ Y mL_law (some σ) [] [.inl (24, A0), .inl (36, A1), .inl (6, A2), .inr (3, A3)] n 1134 (fun b => [(0, .ref (qb Y)), (1, .ref (xad (qX Y) 0)), (2, .ref (b 0)), (3, .ref (b 1)), (4, .int x4), (5, .ref (b 2)), (6, .ref (b 3)), (9, .long x9), (13, .int x13), (14, .int x14), (15, .int x15), (16, .int x16)]) (fun _ => [.int s0, .int s1]) := by
  refine q_icmp_ge dL_law_1134 rfl rfl h (fun c h => ?_) (fun c h => ?_)
  · refine q_iload 8 dL_law_1300 rfl (fun _ => rfl) ?_
    refine q_iconst dL_law_1302 rfl ki_1 ?_
    refine q_icmp_eq dL_law_1303 rfl rfl h (fun c h => ?_) (fun c h => ?_)
    · refine q_iload 10 dL_law_1311 rfl (fun _ => rfl) ?_
      refine q_goto dL_law_1313 rfl ?_
      refine q_sub [0, 1, 2, 3, 4, 5, 6, 7, 8, 9, 10] (fun b => [(0, .ref (qb Y)), (1, .ref (xad (qX Y) 0)), (2, .ref (b 0)), (3, .ref (b 1)), (4, .int x4), (5, .ref (b 2)), (6, .ref (b 3)), (9, .long x9), (13, .int x13), (14, .int x14), (15, .int x15)]) (fun _ => rfl) ?_
      exact jL_law_1321 hE rl1101 hr1101 σ _ A0 A1 A2 A3 x4 x9 x13 x14 x15 x15 h
    · refine q_iload 4 dL_law_1306 rfl (fun _ => rfl) ?_
      refine q_if_ne dL_law_1308 rfl rfl h (fun c h => ?_) (fun c h => ?_)
      · refine q_iload 10 dL_law_1316 rfl (fun _ => rfl) ?_
        refine q_iload 4 dL_law_1318 rfl (fun _ => rfl) ?_
        refine q_idiv dL_law_1320 rfl h (fun h => ?_)
        refine q_sub [0, 1, 2, 3, 4, 5, 6, 7, 8, 9, 10] (fun b => [(0, .ref (qb Y)), (1, .ref (xad (qX Y) 0)), (2, .ref (b 0)), (3, .ref (b 1)), (4, .int x4), (5, .ref (b 2)), (6, .ref (b 3)), (9, .long x9), (13, .int x13), (14, .int x14), (15, .int x15)]) (fun _ => rfl) ?_
        exact jL_law_1321 hE rl1101 hr1101 σ _ A0 A1 A2 A3 x4 x9 x13 x14 x15 (x15 / x4) h
      · refine q_iload 10 dL_law_1311 rfl (fun _ => rfl) ?_
        refine q_goto dL_law_1313 rfl ?_
        refine q_sub [0, 1, 2, 3, 4, 5, 6, 7, 8, 9, 10] (fun b => [(0, .ref (qb Y)), (1, .ref (xad (qX Y) 0)), (2, .ref (b 0)), (3, .ref (b 1)), (4, .int x4), (5, .ref (b 2)), (6, .ref (b 3)), (9, .long x9), (13, .int x13), (14, .int x14), (15, .int x15)]) (fun _ => rfl) ?_
        exact jL_law_1321 hE rl1101 hr1101 σ _ A0 A1 A2 A3 x4 x9 x13 x14 x15 x15 h
  · refine q_aload 5 (fun b => b 2) dL_law_1137 rfl (fun _ => rfl) ?_
    refine q_pick [0, 1, 3, 2] [.inl (24, A0), .inl (36, A1), .inr (3, A3), .inl (6, A2)] [] (fun b => [(0, .ref (qb Y)), (1, .ref (xad (qX Y) 0)), (2, .ref (b 0)), (3, .ref (b 1)), (4, .int x4), (5, .ref (b 3)), (6, .ref (b 2)), (9, .long x9), (13, .int x13), (14, .int x14), (15, .int x15), (16, .int x16)]) (fun b => [.ref (b 3)]) rfl rfl (by decide) rfl (fun _ => rfl) (fun _ => rfl) ?_
    obtain ⟨o264, hc, h⟩ := bn_of h
    refine q_callA [.inl (24, A0), .inl (36, A1), .inr (3, A3)] 3 1 4 (fun b => [.ref (b 3)]) (fun _ => []) (coL_copied A2 o264 hc) rfl rfl rfl rfl ms_RL_44 (by decide) h (fun _ => rfl) (fun _ => rfl) (fun _ => rfl) (fun _ => Nat.le_of_ble_eq_true rfl) (fun _ _ => rfl) (fun _ _ => rfl) (by decide) dL_law_1139 rfl (fun h => ?_)
    show JQ Y mL_law (some σ) [] [.inl (24, A0), .inl (36, A1), .inr (3, A3), .inl (6, A2), .inl (6, o264)] _ 1142 (fun b => [(0, .ref (qb Y)), (1, .ref (xad (qX Y) 0)), (2, .ref (b 0)), (3, .ref (b 1)), (4, .int x4), (5, .ref (b 3)), (6, .ref (b 2)), (9, .long x9), (13, .int x13), (14, .int x14), (15, .int x15), (16, .int x16)]) (fun b => [.ref (b 4)])
    refine q_astore (fun b => b 4) (fun b => [(17, .ref (b 4)), (0, .ref (qb Y)), (1, .ref (xad (qX Y) 0)), (2, .ref (b 0)), (3, .ref (b 1)), (4, .int x4), (5, .ref (b 3)), (6, .ref (b 2)), (9, .long x9), (13, .int x13), (14, .int x14), (15, .int x15), (16, .int x16)]) dL_law_1142 rfl (show 17 < 27 by decide) (fun _ => rfl) ?_
    refine q_iconst dL_law_1144 rfl ki_3 ?_
    refine q_newL 1 5 3 [.inl (24, A0), .inl (36, A1), .inr (3, A3), .inl (6, A2), .inl (6, o264), .inr (3, zL)] aw_J (by decide) (by decide) (by decide) (by decide) (by decide) rfl (fun _ _ => rfl) (fun _ _ => rfl) (by decide) rfl dL_law_1145 rfl h (fun h => ?_)
    refine q_astore (fun b => b 5) (fun b => [(18, .ref (b 5)), (17, .ref (b 4)), (0, .ref (qb Y)), (1, .ref (xad (qX Y) 0)), (2, .ref (b 0)), (3, .ref (b 1)), (4, .int x4), (5, .ref (b 3)), (6, .ref (b 2)), (9, .long x9), (13, .int x13), (14, .int x14), (15, .int x15), (16, .int x16)]) dL_law_1147 rfl (show 18 < 27 by decide) (fun _ => rfl) ?_
    refine q_aload 0 (fun b => b 5) dL_law_1149 rfl (fun _ => rfl) ?_
    refine q_iconst dL_law_1151 rfl ki_0 ?_
    refine q_aload 8 (fun b => b 2) dL_law_1152 rfl (fun _ => rfl) ?_
    refine q_iconst dL_law_1154 rfl ki_0 ?_
    refine q_lald 2 3 A3 rfl dL_law_1155 rfl h (fun j267 h => ?_)
    refine q_last 5 3 zL (fun f268 => [.inl (24, A0), .inl (36, A1), .inr (3, A3), .inl (6, A2), .inl (6, o264), .inr (3, f268)]) rfl (fun _ => rfl) dL_law_1156 rfl h (fun f268 h => ?_)
    refine q_lconst dL_law_1157 rfl kl_0 ?_
    refine q_lstoreV (fun b => [(19, .long (0 : Int64)), (18, .ref (b 5)), (17, .ref (b 4)), (0, .ref (qb Y)), (1, .ref (xad (qX Y) 0)), (2, .ref (b 0)), (3, .ref (b 1)), (4, .int x4), (5, .ref (b 3)), (6, .ref (b 2)), (9, .long x9), (13, .int x13), (14, .int x14), (15, .int x15), (16, .int x16)]) dL_law_1158 rfl (show 19 + 1 < 27 by decide) (fun _ => rfl) ?_
    refine q_iload 11 dL_law_1160 rfl (fun _ => rfl) ?_
    refine q_iconst dL_law_1162 rfl ki_1 ?_
    refine q_icmp_ne dL_law_1163 rfl rfl h (fun c h => ?_) (fun c h => ?_)
    · refine q_iload 14 dL_law_1171 rfl (fun _ => rfl) ?_
      refine q_iload 7 dL_law_1173 rfl (fun _ => rfl) ?_
      refine q_idiv dL_law_1175 rfl h (fun h => ?_)
      refine q_sub [3, 4, 5, 6, 7, 8, 9, 10, 11, 12, 13, 14, 2, 1, 0] (fun b => [(0, .ref (qb Y)), (1, .ref (xad (qX Y) 0)), (2, .ref (b 0)), (3, .ref (b 1)), (4, .int x4), (5, .ref (b 3)), (6, .ref (b 2)), (9, .long x9), (13, .int x13), (14, .int x14), (15, .int x15), (16, .int x16), (17, .ref (b 4)), (18, .ref (b 5)), (19, .long (0 : Int64))]) (fun _ => rfl) ?_
      refine q_pick [0, 1, 3, 2, 4, 5] [.inl (24, A0), .inl (36, A1), .inl (6, A2), .inr (3, A3), .inl (6, o264), .inr (3, f268)] [] (fun b => [(0, .ref (qb Y)), (1, .ref (xad (qX Y) 0)), (2, .ref (b 0)), (3, .ref (b 1)), (4, .int x4), (5, .ref (b 2)), (6, .ref (b 3)), (9, .long x9), (13, .int x13), (14, .int x14), (15, .int x15), (16, .int x16), (17, .ref (b 4)), (18, .ref (b 5)), (19, .long (0 : Int64))]) (fun _ => [.int (x16 / x4)]) rfl rfl (by decide) rfl (fun _ => rfl) (fun _ => rfl) ?_
      exact jL_law_1176 hE rl1101 hr1101 rl1116 hr1116 σ _ A0 A1 A2 A3 o264 f268 x4 x9 x13 x14 x15 x16 (0 : Int64) (x16 / x4) h
    · refine q_iload 14 dL_law_1166 rfl (fun _ => rfl) ?_
      refine q_goto dL_law_1168 rfl ?_
      refine q_sub [3, 4, 5, 6, 7, 8, 9, 10, 11, 12, 13, 14, 2, 1, 0] (fun b => [(0, .ref (qb Y)), (1, .ref (xad (qX Y) 0)), (2, .ref (b 0)), (3, .ref (b 1)), (4, .int x4), (5, .ref (b 3)), (6, .ref (b 2)), (9, .long x9), (13, .int x13), (14, .int x14), (15, .int x15), (16, .int x16), (17, .ref (b 4)), (18, .ref (b 5)), (19, .long (0 : Int64))]) (fun _ => rfl) ?_
      refine q_pick [0, 1, 3, 2, 4, 5] [.inl (24, A0), .inl (36, A1), .inl (6, A2), .inr (3, A3), .inl (6, o264), .inr (3, f268)] [] (fun b => [(0, .ref (qb Y)), (1, .ref (xad (qX Y) 0)), (2, .ref (b 0)), (3, .ref (b 1)), (4, .int x4), (5, .ref (b 2)), (6, .ref (b 3)), (9, .long x9), (13, .int x13), (14, .int x14), (15, .int x15), (16, .int x16), (17, .ref (b 4)), (18, .ref (b 5)), (19, .long (0 : Int64))]) (fun _ => [.int x16]) rfl rfl (by decide) rfl (fun _ => rfl) (fun _ => rfl) ?_
      exact jL_law_1176 hE rl1101 hr1101 rl1116 hr1116 σ _ A0 A1 A2 A3 o264 f268 x4 x9 x13 x14 x15 x16 (0 : Int64) x16 h

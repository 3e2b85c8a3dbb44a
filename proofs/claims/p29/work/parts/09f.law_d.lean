noncomputable def FL_law_663 (L : Nat) (xs : Nat → Int32) (rl191 : Mem → Nat → (Nat → Int32) → (Nat → Int32) → (Nat → Int32) → (Nat → Int64) → Int32 → Int32 → Option (Int32)) (σ : Mem) (n : Nat) (A0 : Nat → Int32) (A1 : Nat → Int32) (A2 : Nat → Int32) (A3 : Nat → Int64) (x4 : Int32) (x7 : Int32) (x11 : Int32) : Option (Int32) :=
  if x11 ≤ 0 then
  (FL_law_677 L xs rl191 σ n A0 A1 A2 A3 x4 x7 x11 (0 : Int32) x7)
  else
  (FL_law_677 L xs rl191 σ n A0 A1 A2 A3 x4 x7 x11 x11 x7)
set_option maxHeartbeats 4000000 in
set_option maxRecDepth 100000 in
theorem jL_law_663 {Y : QX} {out : Int32} (hE : ∀ σ2 : Mem, EndQ Y mL_law .ireturn [] (some σ2) [] (fun _ => [.int out])) (rl191 : Mem → Nat → (Nat → Int32) → (Nat → Int32) → (Nat → Int32) → (Nat → Int64) → Int32 → Int32 → Option (Int32)) (hr191 : ∀ (σ : Mem) (n : Nat) (A0 : Nat → Int32) (A1 : Nat → Int32) (A2 : Nat → Int32) (A3 : Nat → Int64) (x4 : Int32) (x7 : Int32), rl191 σ n A0 A1 A2 A3 x4 x7 = some out → JQ Y mL_law (some σ) [] [.inl (24, A0), .inl (36, A1), .inl (6, A2), .inr (3, A3)] n 191 (fun b => [(0, .ref (qb Y)), (1, .ref (xad (qX Y) 0)), (2, .ref (b 0)), (3, .ref (b 1)), (4, .int x4), (5, .ref (b 2)), (6, .ref (b 3)), (7, .int x7)]) (fun _ => [])) (σ : Mem) (n : Nat) (A0 : Nat → Int32) (A1 : Nat → Int32) (A2 : Nat → Int32) (A3 : Nat → Int64) (x4 : Int32) (x7 : Int32) (x11 : Int32) (h : FL_law_663 (qL Y) (qs Y) rl191 σ n A0 A1 A2 A3 x4 x7 x11 = some out) : JQ Y mL_law (some σ) [] [.inl (24, A0), .inl (36, A1), .inl (6, A2), .inr (3, A3)] n 663 (fun b => [(0, .ref (qb Y)), (1, .ref (xad (qX Y) 0)), (2, .ref (b 0)), (3, .ref (b 1)), (4, .int x4), (5, .ref (b 2)), (6, .ref (b 3)), (7, .int x7), (11, .int x11)]) (fun _ => []) := by
  refine q_aload_n 1 (fun _ => xad (qX Y) 0) dL_law_663 rfl rfl (fun _ => rfl) ?_
  refine q_iload 7 dL_law_664 rfl (fun _ => rfl) ?_
  refine q_iload 8 dL_law_666 rfl (fun _ => rfl) ?_
  refine q_if_le dL_law_668 rfl rfl h (fun c h => ?_) (fun c h => ?_)
  · refine q_iconst dL_law_676 rfl ki_0 ?_
    exact jL_law_677 hE rl191 hr191 σ _ A0 A1 A2 A3 x4 x7 x11 (0 : Int32) x7 h
  · refine q_iload 8 dL_law_671 rfl (fun _ => rfl) ?_
    refine q_goto dL_law_673 rfl ?_
    exact jL_law_677 hE rl191 hr191 σ _ A0 A1 A2 A3 x4 x7 x11 x11 x7 h
noncomputable def FL_law_638 (L : Nat) (xs : Nat → Int32) (rl191 : Mem → Nat → (Nat → Int32) → (Nat → Int32) → (Nat → Int32) → (Nat → Int64) → Int32 → Int32 → Option (Int32)) (rl579 : Mem → Nat → (Nat → Int32) → (Nat → Int32) → (Nat → Int32) → (Nat → Int64) → (Nat → Int32) → (Nat → Int64) → Int32 → Int32 → Int32 → Int32 → Option (Int32)) (σ : Mem) (n : Nat) (A0 : Nat → Int32) (A1 : Nat → Int32) (A2 : Nat → Int32) (A3 : Nat → Int64) (A4 : Nat → Int32) (A5 : Nat → Int64) (x4 : Int32) (x7 : Int32) (x11 : Int32) (x16 : Int32) (s0 : Int32) : Option (Int32) :=
  if x16 = (x11 - (1 : Int32)) then
  (if s0 = (1 : Int32) then
  (nm (x16 + (1 : Int32)) fun x_317 =>
  rl579 σ n A0 A1 A2 A3 A4 A5 x4 x7 x11 x_317)
  else
  (some (0 : Int32)))
  else
  (if s0 = (0 : Int32) then
  (nm (x16 + (1 : Int32)) fun x_316 =>
  rl579 σ n A0 A1 A2 A3 A4 A5 x4 x7 x11 x_316)
  else
  (some (0 : Int32)))
set_option maxHeartbeats 4000000 in
set_option maxRecDepth 100000 in
theorem jL_law_638 {Y : QX} {out : Int32} (hE : ∀ σ2 : Mem, EndQ Y mL_law .ireturn [] (some σ2) [] (fun _ => [.int out])) (rl191 : Mem → Nat → (Nat → Int32) → (Nat → Int32) → (Nat → Int32) → (Nat → Int64) → Int32 → Int32 → Option (Int32)) (hr191 : ∀ (σ : Mem) (n : Nat) (A0 : Nat → Int32) (A1 : Nat → Int32) (A2 : Nat → Int32) (A3 : Nat → Int64) (x4 : Int32) (x7 : Int32), rl191 σ n A0 A1 A2 A3 x4 x7 = some out → JQ Y mL_law (some σ) [] [.inl (24, A0), .inl (36, A1), .inl (6, A2), .inr (3, A3)] n 191 (fun b => [(0, .ref (qb Y)), (1, .ref (xad (qX Y) 0)), (2, .ref (b 0)), (3, .ref (b 1)), (4, .int x4), (5, .ref (b 2)), (6, .ref (b 3)), (7, .int x7)]) (fun _ => [])) (rl579 : Mem → Nat → (Nat → Int32) → (Nat → Int32) → (Nat → Int32) → (Nat → Int64) → (Nat → Int32) → (Nat → Int64) → Int32 → Int32 → Int32 → Int32 → Option (Int32)) (hr579 : ∀ (σ : Mem) (n : Nat) (A0 : Nat → Int32) (A1 : Nat → Int32) (A2 : Nat → Int32) (A3 : Nat → Int64) (A4 : Nat → Int32) (A5 : Nat → Int64) (x4 : Int32) (x7 : Int32) (x11 : Int32) (x16 : Int32), rl579 σ n A0 A1 A2 A3 A4 A5 x4 x7 x11 x16 = some out → JQ Y mL_law (some σ) [] [.inl (24, A0), .inl (36, A1), .inl (6, A2), .inr (3, A3), .inl (6, A4), .inr (3, A5)] n 579 (fun b => [(0, .ref (qb Y)), (1, .ref (xad (qX Y) 0)), (2, .ref (b 0)), (3, .ref (b 1)), (4, .int x4), (5, .ref (b 2)), (6, .ref (b 3)), (7, .int x7), (11, .int x11), (13, .ref (b 4)), (14, .ref (b 5)), (16, .int x16)]) (fun _ => [])) (σ : Mem) (n : Nat) (A0 : Nat → Int32) (A1 : Nat → Int32) (A2 : Nat → Int32) (A3 : Nat → Int64) (A4 : Nat → Int32) (A5 : Nat → Int64) (x4 : Int32) (x7 : Int32) (x11 : Int32) (x16 : Int32) (s0 : Int32) (h : FL_law_638 (qL Y) (qs Y) rl191 rl579 σ n A0 A1 A2 A3 A4 A5 x4 x7 x11 x16 s0 = some out) : JQ Y mL_law (some σ) [] [.inl (24, A0), .inl (36, A1), .inl (6, A2), .inr (3, A3), .inl (6, A4), .inr (3, A5)] n 638 (fun b => [(0, .ref (qb Y)), (1, .ref (xad (qX Y) 0)), (2, .ref (b 0)), (3, .ref (b 1)), (4, .int x4), (5, .ref (b 2)), (6, .ref (b 3)), (7, .int x7), (11, .int x11), (13, .ref (b 4)), (14, .ref (b 5)), (16, .int x16)]) (fun _ => [.int s0]) := by
  refine q_iload 11 dL_law_638 rfl (fun _ => rfl) ?_
  refine q_iload 8 dL_law_640 rfl (fun _ => rfl) ?_
  refine q_iconst dL_law_642 rfl ki_1 ?_
  refine q_isub dL_law_643 rfl ?_
  refine q_icmp_ne dL_law_644 rfl rfl h (fun c h => ?_) (fun c h => ?_)
  · refine q_iconst dL_law_651 rfl ki_0 ?_
    refine q_icmp_eq dL_law_652 rfl rfl h (fun c h => ?_) (fun c h => ?_)
    · refine q_iinc 11 (fun x_316 => (fun b => [(16, .int x_316), (0, .ref (qb Y)), (1, .ref (xad (qX Y) 0)), (2, .ref (b 0)), (3, .ref (b 1)), (4, .int x4), (5, .ref (b 2)), (6, .ref (b 3)), (7, .int x7), (11, .int x11), (13, .ref (b 4)), (14, .ref (b 5))])) dL_law_657 rfl (fun _ => rfl) ki_1 (show 16 < 27 by decide) (fun _ _ => rfl) h (fun x_316 h => ?_)
      refine q_goto dL_law_660 rfl ?_
      refine q_sub [1, 2, 3, 4, 5, 6, 7, 8, 9, 10, 11, 0] (fun b => [(0, .ref (qb Y)), (1, .ref (xad (qX Y) 0)), (2, .ref (b 0)), (3, .ref (b 1)), (4, .int x4), (5, .ref (b 2)), (6, .ref (b 3)), (7, .int x7), (11, .int x11), (13, .ref (b 4)), (14, .ref (b 5)), (16, .int x_316)]) (fun _ => rfl) ?_
      exact hr579 σ _ A0 A1 A2 A3 A4 A5 x4 x7 x11 x_316 h
    · refine q_iconst dL_law_655 rfl ki_0 ?_
      refine q_sub [0, 1, 4, 7, 8, 11] (fun _ => [(0, .ref (qb Y)), (1, .ref (xad (qX Y) 0)), (4, .int x4), (7, .int x7), (11, .int x11), (16, .int x16)]) (fun _ => rfl) ?_
      refine q_pick [] [] [] (fun _ => [(0, .ref (qb Y)), (1, .ref (xad (qX Y) 0)), (4, .int x4), (7, .int x7), (11, .int x11), (16, .int x16)]) (fun _ => [.int (0 : Int32)]) rfl rfl (by decide) rfl (fun _ => rfl) (fun _ => rfl) ?_
      cases h
      exact hE _ _ _ _ dL_law_656
  · refine q_iconst dL_law_647 rfl ki_1 ?_
    refine q_goto dL_law_648 rfl ?_
    refine q_icmp_eq dL_law_652 rfl rfl h (fun c h => ?_) (fun c h => ?_)
    · refine q_iinc 11 (fun x_317 => (fun b => [(16, .int x_317), (0, .ref (qb Y)), (1, .ref (xad (qX Y) 0)), (2, .ref (b 0)), (3, .ref (b 1)), (4, .int x4), (5, .ref (b 2)), (6, .ref (b 3)), (7, .int x7), (11, .int x11), (13, .ref (b 4)), (14, .ref (b 5))])) dL_law_657 rfl (fun _ => rfl) ki_1 (show 16 < 27 by decide) (fun _ _ => rfl) h (fun x_317 h => ?_)
      refine q_goto dL_law_660 rfl ?_
      refine q_sub [1, 2, 3, 4, 5, 6, 7, 8, 9, 10, 11, 0] (fun b => [(0, .ref (qb Y)), (1, .ref (xad (qX Y) 0)), (2, .ref (b 0)), (3, .ref (b 1)), (4, .int x4), (5, .ref (b 2)), (6, .ref (b 3)), (7, .int x7), (11, .int x11), (13, .ref (b 4)), (14, .ref (b 5)), (16, .int x_317)]) (fun _ => rfl) ?_
      exact hr579 σ _ A0 A1 A2 A3 A4 A5 x4 x7 x11 x_317 h
    · refine q_iconst dL_law_655 rfl ki_0 ?_
      refine q_sub [0, 1, 4, 7, 8, 11] (fun _ => [(0, .ref (qb Y)), (1, .ref (xad (qX Y) 0)), (4, .int x4), (7, .int x7), (11, .int x11), (16, .int x16)]) (fun _ => rfl) ?_
      refine q_pick [] [] [] (fun _ => [(0, .ref (qb Y)), (1, .ref (xad (qX Y) 0)), (4, .int x4), (7, .int x7), (11, .int x11), (16, .int x16)]) (fun _ => [.int (0 : Int32)]) rfl rfl (by decide) rfl (fun _ => rfl) (fun _ => rfl) ?_
      cases h
      exact hE _ _ _ _ dL_law_656
noncomputable def BL_law_579 (L : Nat) (xs : Nat → Int32) (rl191 : Mem → Nat → (Nat → Int32) → (Nat → Int32) → (Nat → Int32) → (Nat → Int64) → Int32 → Int32 → Option (Int32)) (rl579 : Mem → Nat → (Nat → Int32) → (Nat → Int32) → (Nat → Int32) → (Nat → Int64) → (Nat → Int32) → (Nat → Int64) → Int32 → Int32 → Int32 → Int32 → Option (Int32)) (σ : Mem) (n : Nat) (A0 : Nat → Int32) (A1 : Nat → Int32) (A2 : Nat → Int32) (A3 : Nat → Int64) (A4 : Nat → Int32) (A5 : Nat → Int64) (x4 : Int32) (x7 : Int32) (x11 : Int32) (x16 : Int32) : Option (Int32) :=
  if x11 ≤ x16 then
  (FL_law_663 L xs rl191 σ n A0 A1 A2 A3 x4 x7 x11)
  else
  (bi (FX8_fewest σ x7 x16) fun r318 σ319 =>
  dzI (10 : Int32) <|
  dzI (10 : Int32) <|
  bn (FL_push A0 A1 A4 A5 (r318 / (10 : Int32)) (r318 - r318 / (10 : Int32) * (10 : Int32))) fun o320 =>
  if o320.1 < 0 then
  (some (0 : Int32))
  else
  (if ((o320.1 >>> (x7 &&& 31)) &&& (1 : Int32)) = (1 : Int32) then
  (FL_law_638 L xs rl191 rl579 σ319 n A0 A1 A2 A3 o320.2.1 o320.2.2 x4 x7 x11 x16 (1 : Int32))
  else
  (FL_law_638 L xs rl191 rl579 σ319 n A0 A1 A2 A3 o320.2.1 o320.2.2 x4 x7 x11 x16 (0 : Int32))))
set_option maxHeartbeats 4000000 in
set_option maxRecDepth 100000 in
theorem jL_law_579 {Y : QX} {out : Int32} (hE : ∀ σ2 : Mem, EndQ Y mL_law .ireturn [] (some σ2) [] (fun _ => [.int out])) (rl191 : Mem → Nat → (Nat → Int32) → (Nat → Int32) → (Nat → Int32) → (Nat → Int64) → Int32 → Int32 → Option (Int32)) (hr191 : ∀ (σ : Mem) (n : Nat) (A0 : Nat → Int32) (A1 : Nat → Int32) (A2 : Nat → Int32) (A3 : Nat → Int64) (x4 : Int32) (x7 : Int32), rl191 σ n A0 A1 A2 A3 x4 x7 = some out → JQ Y mL_law (some σ) [] [.inl (24, A0), .inl (36, A1), .inl (6, A2), .inr (3, A3)] n 191 (fun b => [(0, .ref (qb Y)), (1, .ref (xad (qX Y) 0)), (2, .ref (b 0)), (3, .ref (b 1)), (4, .int x4), (5, .ref (b 2)), (6, .ref (b 3)), (7, .int x7)]) (fun _ => [])) (rl579 : Mem → Nat → (Nat → Int32) → (Nat → Int32) → (Nat → Int32) → (Nat → Int64) → (Nat → Int32) → (Nat → Int64) → Int32 → Int32 → Int32 → Int32 → Option (Int32)) (hr579 : ∀ (σ : Mem) (n : Nat) (A0 : Nat → Int32) (A1 : Nat → Int32) (A2 : Nat → Int32) (A3 : Nat → Int64) (A4 : Nat → Int32) (A5 : Nat → Int64) (x4 : Int32) (x7 : Int32) (x11 : Int32) (x16 : Int32), rl579 σ n A0 A1 A2 A3 A4 A5 x4 x7 x11 x16 = some out → JQ Y mL_law (some σ) [] [.inl (24, A0), .inl (36, A1), .inl (6, A2), .inr (3, A3), .inl (6, A4), .inr (3, A5)] n 579 (fun b => [(0, .ref (qb Y)), (1, .ref (xad (qX Y) 0)), (2, .ref (b 0)), (3, .ref (b 1)), (4, .int x4), (5, .ref (b 2)), (6, .ref (b 3)), (7, .int x7), (11, .int x11), (13, .ref (b 4)), (14, .ref (b 5)), (16, .int x16)]) (fun _ => [])) (σ : Mem) (n : Nat) (A0 : Nat → Int32) (A1 : Nat → Int32) (A2 : Nat → Int32) (A3 : Nat → Int64) (A4 : Nat → Int32) (A5 : Nat → Int64) (x4 : Int32) (x7 : Int32) (x11 : Int32) (x16 : Int32) (h : BL_law_579 (qL Y) (qs Y) rl191 rl579 σ n A0 A1 A2 A3 A4 A5 x4 x7 x11 x16 = some out) : JQ Y mL_law (some σ) [] [.inl (24, A0), .inl (36, A1), .inl (6, A2), .inr (3, A3), .inl (6, A4), .inr (3, A5)] n 579 (fun b => [(0, .ref (qb Y)), (1, .ref (xad (qX Y) 0)), (2, .ref (b 0)), (3, .ref (b 1)), (4, .int x4), (5, .ref (b 2)), (6, .ref (b 3)), (7, .int x7), (11, .int x11), (13, .ref (b 4)), (14, .ref (b 5)), (16, .int x16)]) (fun _ => []) := by
  refine q_iload 11 dL_law_579 rfl (fun _ => rfl) ?_
  refine q_iload 8 dL_law_581 rfl (fun _ => rfl) ?_
  refine q_icmp_ge dL_law_583 rfl rfl h (fun c h => ?_) (fun c h => ?_)
  · refine q_sub [0, 1, 2, 3, 4, 5, 6, 7, 8] (fun b => [(0, .ref (qb Y)), (1, .ref (xad (qX Y) 0)), (2, .ref (b 0)), (3, .ref (b 1)), (4, .int x4), (5, .ref (b 2)), (6, .ref (b 3)), (7, .int x7), (11, .int x11)]) (fun _ => rfl) ?_
    refine q_pick [0, 1, 2, 3] [.inl (24, A0), .inl (36, A1), .inl (6, A2), .inr (3, A3)] [] (fun b => [(0, .ref (qb Y)), (1, .ref (xad (qX Y) 0)), (2, .ref (b 0)), (3, .ref (b 1)), (4, .int x4), (5, .ref (b 2)), (6, .ref (b 3)), (7, .int x7), (11, .int x11)]) (fun _ => []) rfl rfl (by decide) rfl (fun _ => rfl) (fun _ => rfl) ?_
    exact jL_law_663 hE rl191 hr191 σ _ A0 A1 A2 A3 x4 x7 x11 h
  · refine q_aload_n 1 (fun _ => xad (qX Y) 0) dL_law_586 rfl rfl (fun _ => rfl) ?_
    refine q_iload 7 dL_law_587 rfl (fun _ => rfl) ?_
    refine q_iload 11 dL_law_589 rfl (fun _ => rfl) ?_
    obtain ⟨r318, σ319, hc, h⟩ := bi_of h
    refine q_callX [.int x7, .int x16] [] (coX8_fewest σ x7 x16 r318 σ319 hc) mv_RL_53 (by decide) rfl rfl (fun _ => rfl) (Nat.le_of_ble_eq_true rfl) dL_law_591 rfl ?_
    refine q_istoreV (fun b => [(17, .int r318), (0, .ref (qb Y)), (1, .ref (xad (qX Y) 0)), (2, .ref (b 0)), (3, .ref (b 1)), (4, .int x4), (5, .ref (b 2)), (6, .ref (b 3)), (7, .int x7), (11, .int x11), (13, .ref (b 4)), (14, .ref (b 5)), (16, .int x16)]) dL_law_594 rfl (show 17 < 27 by decide) (fun _ => rfl) ?_
    refine q_aload_n 3 (fun b => b 0) dL_law_596 rfl rfl (fun _ => rfl) ?_
    refine q_aload_n 4 (fun b => b 1) dL_law_597 rfl rfl (fun _ => rfl) ?_
    refine q_aload 10 (fun b => b 4) dL_law_598 rfl (fun _ => rfl) ?_
    refine q_aload 11 (fun b => b 5) dL_law_600 rfl (fun _ => rfl) ?_
    refine q_iload 0 dL_law_602 rfl (fun _ => rfl) ?_
    refine q_bipush dL_law_604 rfl kb_10 ?_
    refine q_idiv dL_law_606 rfl h (fun h => ?_)
    refine q_iload 0 dL_law_607 rfl (fun _ => rfl) ?_
    refine q_bipush dL_law_609 rfl kb_10 ?_
    refine q_irem dL_law_611 rfl h (fun h => ?_)
    refine q_pick [2, 3, 0, 1, 4, 5] [.inl (6, A2), .inr (3, A3), .inl (24, A0), .inl (36, A1), .inl (6, A4), .inr (3, A5)] [] (fun b => [(17, .int r318), (0, .ref (qb Y)), (1, .ref (xad (qX Y) 0)), (2, .ref (b 2)), (3, .ref (b 3)), (4, .int x4), (5, .ref (b 0)), (6, .ref (b 1)), (7, .int x7), (11, .int x11), (13, .ref (b 4)), (14, .ref (b 5)), (16, .int x16)]) (fun b => [.int (r318 - r318 / (10 : Int32) * (10 : Int32)), .int (r318 / (10 : Int32)), .ref (b 5), .ref (b 4), .ref (b 3), .ref (b 2)]) rfl rfl (by decide) rfl (fun _ => rfl) (fun _ => rfl) ?_
    obtain ⟨o320, hc, h⟩ := bn_of h
    refine q_call [.inl (6, A2), .inr (3, A3)] 2 (fun b => [.ref (b 2), .ref (b 3), .ref (b 4), .ref (b 5), .int (r318 / (10 : Int32)), .int (r318 - r318 / (10 : Int32) * (10 : Int32))]) (fun _ => []) (coL_push A0 A1 A4 A5 (r318 / (10 : Int32)) (r318 - r318 / (10 : Int32) * (10 : Int32)) o320 hc) rfl rfl rfl ms_RL_47 (by decide) (Or.inl rfl) (fun _ => rfl) (fun _ => rfl) (fun _ => rfl) (fun _ => Nat.le_of_ble_eq_true rfl) dL_law_612 rfl ?_
    show JQ Y mL_law (some σ319) [] [.inl (6, A2), .inr (3, A3), .inl (24, A0), .inl (36, A1), .inl (6, o320.2.1), .inr (3, o320.2.2)] _ 615 (fun b => [(17, .int r318), (0, .ref (qb Y)), (1, .ref (xad (qX Y) 0)), (2, .ref (b 2)), (3, .ref (b 3)), (4, .int x4), (5, .ref (b 0)), (6, .ref (b 1)), (7, .int x7), (11, .int x11), (13, .ref (b 4)), (14, .ref (b 5)), (16, .int x16)]) (fun _ => [.int o320.1])
    refine q_istoreV (fun b => [(15, .int o320.1), (17, .int r318), (0, .ref (qb Y)), (1, .ref (xad (qX Y) 0)), (2, .ref (b 2)), (3, .ref (b 3)), (4, .int x4), (5, .ref (b 0)), (6, .ref (b 1)), (7, .int x7), (11, .int x11), (13, .ref (b 4)), (14, .ref (b 5)), (16, .int x16)]) dL_law_615 rfl (show 15 < 27 by decide) (fun _ => rfl) ?_
    refine q_iload 0 dL_law_617 rfl (fun _ => rfl) ?_
    refine q_if_lt dL_law_619 rfl rfl h (fun c h => ?_) (fun c h => ?_)
    · refine q_iconst dL_law_655 rfl ki_0 ?_
      refine q_sub [0, 1, 2, 3, 6, 9, 10, 13] (fun _ => [(15, .int o320.1), (17, .int r318), (0, .ref (qb Y)), (1, .ref (xad (qX Y) 0)), (4, .int x4), (7, .int x7), (11, .int x11), (16, .int x16)]) (fun _ => rfl) ?_
      refine q_pick [] [] [] (fun _ => [(15, .int o320.1), (17, .int r318), (0, .ref (qb Y)), (1, .ref (xad (qX Y) 0)), (4, .int x4), (7, .int x7), (11, .int x11), (16, .int x16)]) (fun _ => [.int (0 : Int32)]) rfl rfl (by decide) rfl (fun _ => rfl) (fun _ => rfl) ?_
      cases h
      exact hE _ _ _ _ dL_law_656
    · refine q_iload 0 dL_law_622 rfl (fun _ => rfl) ?_
      refine q_iload 9 dL_law_624 rfl (fun _ => rfl) ?_
      refine q_ishr dL_law_626 rfl ?_
      refine q_iconst dL_law_627 rfl ki_1 ?_
      refine q_iand dL_law_628 rfl ?_
      refine q_iconst dL_law_629 rfl ki_1 ?_
      refine q_icmp_ne dL_law_630 rfl rfl h (fun c h => ?_) (fun c h => ?_)
      · refine q_iconst dL_law_637 rfl ki_0 ?_
        refine q_sub [2, 3, 4, 5, 6, 7, 8, 9, 10, 11, 12, 13] (fun b => [(0, .ref (qb Y)), (1, .ref (xad (qX Y) 0)), (2, .ref (b 2)), (3, .ref (b 3)), (4, .int x4), (5, .ref (b 0)), (6, .ref (b 1)), (7, .int x7), (11, .int x11), (13, .ref (b 4)), (14, .ref (b 5)), (16, .int x16)]) (fun _ => rfl) ?_
        refine q_pick [2, 3, 0, 1, 4, 5] [.inl (24, A0), .inl (36, A1), .inl (6, A2), .inr (3, A3), .inl (6, o320.2.1), .inr (3, o320.2.2)] [] (fun b => [(0, .ref (qb Y)), (1, .ref (xad (qX Y) 0)), (2, .ref (b 0)), (3, .ref (b 1)), (4, .int x4), (5, .ref (b 2)), (6, .ref (b 3)), (7, .int x7), (11, .int x11), (13, .ref (b 4)), (14, .ref (b 5)), (16, .int x16)]) (fun _ => [.int (0 : Int32)]) rfl rfl (by decide) rfl (fun _ => rfl) (fun _ => rfl) ?_
        exact jL_law_638 hE rl191 hr191 rl579 hr579 σ319 _ A0 A1 A2 A3 o320.2.1 o320.2.2 x4 x7 x11 x16 (0 : Int32) h
      · refine q_iconst dL_law_633 rfl ki_1 ?_
        refine q_goto dL_law_634 rfl ?_
        refine q_sub [2, 3, 4, 5, 6, 7, 8, 9, 10, 11, 12, 13] (fun b => [(0, .ref (qb Y)), (1, .ref (xad (qX Y) 0)), (2, .ref (b 2)), (3, .ref (b 3)), (4, .int x4), (5, .ref (b 0)), (6, .ref (b 1)), (7, .int x7), (11, .int x11), (13, .ref (b 4)), (14, .ref (b 5)), (16, .int x16)]) (fun _ => rfl) ?_
        refine q_pick [2, 3, 0, 1, 4, 5] [.inl (24, A0), .inl (36, A1), .inl (6, A2), .inr (3, A3), .inl (6, o320.2.1), .inr (3, o320.2.2)] [] (fun b => [(0, .ref (qb Y)), (1, .ref (xad (qX Y) 0)), (2, .ref (b 0)), (3, .ref (b 1)), (4, .int x4), (5, .ref (b 2)), (6, .ref (b 3)), (7, .int x7), (11, .int x11), (13, .ref (b 4)), (14, .ref (b 5)), (16, .int x16)]) (fun _ => [.int (1 : Int32)]) rfl rfl (by decide) rfl (fun _ => rfl) (fun _ => rfl) ?_
        exact jL_law_638 hE rl191 hr191 rl579 hr579 σ319 _ A0 A1 A2 A3 o320.2.1 o320.2.2 x4 x7 x11 x16 (1 : Int32) h
noncomputable def FL_law_579 (L : Nat) (xs : Nat → Int32) (rl191 : Mem → Nat → (Nat → Int32) → (Nat → Int32) → (Nat → Int32) → (Nat → Int64) → Int32 → Int32 → Option (Int32)) (fu : Nat) : Mem → Nat → (Nat → Int32) → (Nat → Int32) → (Nat → Int32) → (Nat → Int64) → (Nat → Int32) → (Nat → Int64) → Int32 → Int32 → Int32 → Int32 → Option (Int32) :=
  Nat.rec (fun _ _ _ _ _ _ _ _ _ _ _ _ => none) (fun _ ih => BL_law_579 L xs rl191 ih) fu
theorem lL_law_579 {Y : QX} {out : Int32} (hE : ∀ σ2 : Mem, EndQ Y mL_law .ireturn [] (some σ2) [] (fun _ => [.int out])) (rl191 : Mem → Nat → (Nat → Int32) → (Nat → Int32) → (Nat → Int32) → (Nat → Int64) → Int32 → Int32 → Option (Int32)) (hr191 : ∀ (σ : Mem) (n : Nat) (A0 : Nat → Int32) (A1 : Nat → Int32) (A2 : Nat → Int32) (A3 : Nat → Int64) (x4 : Int32) (x7 : Int32), rl191 σ n A0 A1 A2 A3 x4 x7 = some out → JQ Y mL_law (some σ) [] [.inl (24, A0), .inl (36, A1), .inl (6, A2), .inr (3, A3)] n 191 (fun b => [(0, .ref (qb Y)), (1, .ref (xad (qX Y) 0)), (2, .ref (b 0)), (3, .ref (b 1)), (4, .int x4), (5, .ref (b 2)), (6, .ref (b 3)), (7, .int x7)]) (fun _ => [])) : ∀ (fu : Nat) (σ : Mem) (n : Nat) (A0 : Nat → Int32) (A1 : Nat → Int32) (A2 : Nat → Int32) (A3 : Nat → Int64) (A4 : Nat → Int32) (A5 : Nat → Int64) (x4 : Int32) (x7 : Int32) (x11 : Int32) (x16 : Int32), FL_law_579 (qL Y) (qs Y) rl191 fu σ n A0 A1 A2 A3 A4 A5 x4 x7 x11 x16 = some out → JQ Y mL_law (some σ) [] [.inl (24, A0), .inl (36, A1), .inl (6, A2), .inr (3, A3), .inl (6, A4), .inr (3, A5)] n 579 (fun b => [(0, .ref (qb Y)), (1, .ref (xad (qX Y) 0)), (2, .ref (b 0)), (3, .ref (b 1)), (4, .int x4), (5, .ref (b 2)), (6, .ref (b 3)), (7, .int x7), (11, .int x11), (13, .ref (b 4)), (14, .ref (b 5)), (16, .int x16)]) (fun _ => []) := by
  intro fu
  induction fu with
  | zero => intro σ n A0 A1 A2 A3 A4 A5 x4 x7 x11 x16 h; exact nn h
  | succ fu ih => intro σ n A0 A1 A2 A3 A4 A5 x4 x7 x11 x16 h; exact jL_law_579 hE rl191 hr191 (FL_law_579 (qL Y) (qs Y) rl191 fu) ih σ n A0 A1 A2 A3 A4 A5 x4 x7 x11 x16 h
noncomputable def FL_law_514 (L : Nat) (xs : Nat → Int32) (rl191 : Mem → Nat → (Nat → Int32) → (Nat → Int32) → (Nat → Int32) → (Nat → Int64) → Int32 → Int32 → Option (Int32)) (rl480 : Mem → Nat → (Nat → Int32) → (Nat → Int32) → (Nat → Int32) → (Nat → Int64) → Int32 → Int32 → Int32 → Int32 → Int32 → Int32 → Int32 → Option (Int32)) (σ : Mem) (n : Nat) (A0 : Nat → Int32) (A1 : Nat → Int32) (A2 : Nat → Int32) (A3 : Nat → Int64) (x4 : Int32) (x7 : Int32) (x8 : Int32) (x9 : Int32) (x11 : Int32) (x13 : Int32) (x14 : Int32) (s0 : Int32) : Option (Int32) :=
  bi (FX8_fewest σ x7 x13) fun r321 σ322 =>
  dzI (4 : Int32) <|
  dzI (4 : Int32) <|
  if r321 = (((10 : Int32) * (x14 / (4 : Int32))) + (x14 - x14 / (4 : Int32) * (4 : Int32))) then
  (nm (x13 + (1 : Int32)) fun x_323 =>
  rl480 σ322 n A0 A1 A2 A3 x4 x7 x8 x9 x11 s0 x_323)
  else
  (some (0 : Int32))
set_option maxHeartbeats 4000000 in
set_option maxRecDepth 100000 in
theorem jL_law_514 {Y : QX} {out : Int32} (hE : ∀ σ2 : Mem, EndQ Y mL_law .ireturn [] (some σ2) [] (fun _ => [.int out])) (rl191 : Mem → Nat → (Nat → Int32) → (Nat → Int32) → (Nat → Int32) → (Nat → Int64) → Int32 → Int32 → Option (Int32)) (hr191 : ∀ (σ : Mem) (n : Nat) (A0 : Nat → Int32) (A1 : Nat → Int32) (A2 : Nat → Int32) (A3 : Nat → Int64) (x4 : Int32) (x7 : Int32), rl191 σ n A0 A1 A2 A3 x4 x7 = some out → JQ Y mL_law (some σ) [] [.inl (24, A0), .inl (36, A1), .inl (6, A2), .inr (3, A3)] n 191 (fun b => [(0, .ref (qb Y)), (1, .ref (xad (qX Y) 0)), (2, .ref (b 0)), (3, .ref (b 1)), (4, .int x4), (5, .ref (b 2)), (6, .ref (b 3)), (7, .int x7)]) (fun _ => [])) (rl480 : Mem → Nat → (Nat → Int32) → (Nat → Int32) → (Nat → Int32) → (Nat → Int64) → Int32 → Int32 → Int32 → Int32 → Int32 → Int32 → Int32 → Option (Int32)) (hr480 : ∀ (σ : Mem) (n : Nat) (A0 : Nat → Int32) (A1 : Nat → Int32) (A2 : Nat → Int32) (A3 : Nat → Int64) (x4 : Int32) (x7 : Int32) (x8 : Int32) (x9 : Int32) (x11 : Int32) (x12 : Int32) (x13 : Int32), rl480 σ n A0 A1 A2 A3 x4 x7 x8 x9 x11 x12 x13 = some out → JQ Y mL_law (some σ) [] [.inl (24, A0), .inl (36, A1), .inl (6, A2), .inr (3, A3)] n 480 (fun b => [(0, .ref (qb Y)), (1, .ref (xad (qX Y) 0)), (2, .ref (b 0)), (3, .ref (b 1)), (4, .int x4), (5, .ref (b 2)), (6, .ref (b 3)), (7, .int x7), (8, .int x8), (9, .int x9), (11, .int x11), (12, .int x12), (13, .int x13)]) (fun _ => [])) (σ : Mem) (n : Nat) (A0 : Nat → Int32) (A1 : Nat → Int32) (A2 : Nat → Int32) (A3 : Nat → Int64) (x4 : Int32) (x7 : Int32) (x8 : Int32) (x9 : Int32) (x11 : Int32) (x13 : Int32) (x14 : Int32) (s0 : Int32) (h : FL_law_514 (qL Y) (qs Y) rl191 rl480 σ n A0 A1 A2 A3 x4 x7 x8 x9 x11 x13 x14 s0 = some out) : JQ Y mL_law (some σ) [] [.inl (24, A0), .inl (36, A1), .inl (6, A2), .inr (3, A3)] n 514 (fun b => [(0, .ref (qb Y)), (1, .ref (xad (qX Y) 0)), (2, .ref (b 0)), (3, .ref (b 1)), (4, .int x4), (5, .ref (b 2)), (6, .ref (b 3)), (7, .int x7), (8, .int x8), (9, .int x9), (11, .int x11), (13, .int x13), (14, .int x14)]) (fun _ => [.int s0]) := by
  refine q_istoreV (fun b => [(12, .int s0), (0, .ref (qb Y)), (1, .ref (xad (qX Y) 0)), (2, .ref (b 0)), (3, .ref (b 1)), (4, .int x4), (5, .ref (b 2)), (6, .ref (b 3)), (7, .int x7), (8, .int x8), (9, .int x9), (11, .int x11), (13, .int x13), (14, .int x14)]) dL_law_514 rfl (show 12 < 27 by decide) (fun _ => rfl) ?_
  refine q_aload_n 2 (fun _ => xad (qX Y) 0) dL_law_516 rfl rfl (fun _ => rfl) ?_
  refine q_iload 8 dL_law_517 rfl (fun _ => rfl) ?_
  refine q_iload 12 dL_law_519 rfl (fun _ => rfl) ?_
  obtain ⟨r321, σ322, hc, h⟩ := bi_of h
  refine q_callX [.int x7, .int x13] [] (coX8_fewest σ x7 x13 r321 σ322 hc) mv_RL_53 (by decide) rfl rfl (fun _ => rfl) (Nat.le_of_ble_eq_true rfl) dL_law_521 rfl ?_
  refine q_bipush dL_law_524 rfl kb_10 ?_
  refine q_iload 13 dL_law_526 rfl (fun _ => rfl) ?_
  refine q_iconst dL_law_528 rfl ki_4 ?_
  refine q_idiv dL_law_529 rfl h (fun h => ?_)
  refine q_imul dL_law_530 rfl ?_
  refine q_iload 13 dL_law_531 rfl (fun _ => rfl) ?_
  refine q_iconst dL_law_533 rfl ki_4 ?_
  refine q_irem dL_law_534 rfl h (fun h => ?_)
  refine q_iadd dL_law_535 rfl ?_
  refine q_icmp_eq dL_law_536 rfl rfl h (fun c h => ?_) (fun c h => ?_)
  · refine q_iinc 12 (fun x_323 => (fun b => [(13, .int x_323), (12, .int s0), (0, .ref (qb Y)), (1, .ref (xad (qX Y) 0)), (2, .ref (b 0)), (3, .ref (b 1)), (4, .int x4), (5, .ref (b 2)), (6, .ref (b 3)), (7, .int x7), (8, .int x8), (9, .int x9), (11, .int x11), (14, .int x14)])) dL_law_541 rfl (fun _ => rfl) ki_1 (show 13 < 27 by decide) (fun _ _ => rfl) h (fun x_323 h => ?_)
    refine q_goto dL_law_544 rfl ?_
    refine q_sub [2, 3, 4, 5, 6, 7, 8, 9, 10, 11, 12, 1, 0] (fun b => [(0, .ref (qb Y)), (1, .ref (xad (qX Y) 0)), (2, .ref (b 0)), (3, .ref (b 1)), (4, .int x4), (5, .ref (b 2)), (6, .ref (b 3)), (7, .int x7), (8, .int x8), (9, .int x9), (11, .int x11), (12, .int s0), (13, .int x_323)]) (fun _ => rfl) ?_
    exact hr480 σ322 _ A0 A1 A2 A3 x4 x7 x8 x9 x11 s0 x_323 h
  · refine q_iconst dL_law_539 rfl ki_0 ?_
    refine q_sub [0, 1, 2, 5, 8, 9, 10, 11, 12, 13] (fun _ => [(12, .int s0), (0, .ref (qb Y)), (1, .ref (xad (qX Y) 0)), (4, .int x4), (7, .int x7), (8, .int x8), (9, .int x9), (11, .int x11), (13, .int x13), (14, .int x14)]) (fun _ => rfl) ?_
    refine q_pick [] [] [] (fun _ => [(12, .int s0), (0, .ref (qb Y)), (1, .ref (xad (qX Y) 0)), (4, .int x4), (7, .int x7), (8, .int x8), (9, .int x9), (11, .int x11), (13, .int x13), (14, .int x14)]) (fun _ => [.int (0 : Int32)]) rfl rfl (by decide) rfl (fun _ => rfl) (fun _ => rfl) ?_
    cases h
    exact hE _ _ _ _ dL_law_540
noncomputable def BL_law_480 (L : Nat) (xs : Nat → Int32) (rl191 : Mem → Nat → (Nat → Int32) → (Nat → Int32) → (Nat → Int32) → (Nat → Int64) → Int32 → Int32 → Option (Int32)) (rl480 : Mem → Nat → (Nat → Int32) → (Nat → Int32) → (Nat → Int32) → (Nat → Int64) → Int32 → Int32 → Int32 → Int32 → Int32 → Int32 → Int32 → Option (Int32)) (σ : Mem) (n : Nat) (A0 : Nat → Int32) (A1 : Nat → Int32) (A2 : Nat → Int32) (A3 : Nat → Int64) (x4 : Int32) (x7 : Int32) (x8 : Int32) (x9 : Int32) (x11 : Int32) (x12 : Int32) (x13 : Int32) : Option (Int32) :=
  if x8 ≤ x13 then
  (if x11 ≤ (3 : Int32) then
  (FL_law_663 L xs rl191 σ n A0 A1 A2 A3 x4 x7 x11)
  else
  (bn (FL_copied A2 0) fun o324 =>
  al 600000 n 1 fun n325 =>
  al 600000 n325 1 fun n326 =>
  rd (0 : Int32) 3 fun j327 =>
  stB (0 : Int32) 3 zL (A3 j327) fun f328 =>
  FL_law_579 L xs rl191 FU σ n326 A0 A1 A2 A3 o324 f328 x4 x7 x11 (0 : Int32)))
  else
  (dzI x12 <|
  dzI x4 <|
  nm ((x9 / x12) - (x9 / x12) / x4 * x4) fun x_329 =>
  dzI x4 <|
  if (x12 / x4) ≤ 0 then
  (FL_law_514 L xs rl191 rl480 σ n A0 A1 A2 A3 x4 x7 x8 x9 x11 x13 x_329 (1 : Int32))
  else
  (dzI x4 <|
  FL_law_514 L xs rl191 rl480 σ n A0 A1 A2 A3 x4 x7 x8 x9 x11 x13 x_329 (x12 / x4)))
set_option maxHeartbeats 4000000 in
set_option maxRecDepth 100000 in
theorem jL_law_480 {Y : QX} {out : Int32} (hE : ∀ σ2 : Mem, EndQ Y mL_law .ireturn [] (some σ2) [] (fun _ => [.int out])) (rl191 : Mem → Nat → (Nat → Int32) → (Nat → Int32) → (Nat → Int32) → (Nat → Int64) → Int32 → Int32 → Option (Int32)) (hr191 : ∀ (σ : Mem) (n : Nat) (A0 : Nat → Int32) (A1 : Nat → Int32) (A2 : Nat → Int32) (A3 : Nat → Int64) (x4 : Int32) (x7 : Int32), rl191 σ n A0 A1 A2 A3 x4 x7 = some out → JQ Y mL_law (some σ) [] [.inl (24, A0), .inl (36, A1), .inl (6, A2), .inr (3, A3)] n 191 (fun b => [(0, .ref (qb Y)), (1, .ref (xad (qX Y) 0)), (2, .ref (b 0)), (3, .ref (b 1)), (4, .int x4), (5, .ref (b 2)), (6, .ref (b 3)), (7, .int x7)]) (fun _ => [])) (rl480 : Mem → Nat → (Nat → Int32) → (Nat → Int32) → (Nat → Int32) → (Nat → Int64) → Int32 → Int32 → Int32 → Int32 → Int32 → Int32 → Int32 → Option (Int32)) (hr480 : ∀ (σ : Mem) (n : Nat) (A0 : Nat → Int32) (A1 : Nat → Int32) (A2 : Nat → Int32) (A3 : Nat → Int64) (x4 : Int32) (x7 : Int32) (x8 : Int32) (x9 : Int32) (x11 : Int32) (x12 : Int32) (x13 : Int32), rl480 σ n A0 A1 A2 A3 x4 x7 x8 x9 x11 x12 x13 = some out → JQ Y mL_law (some σ) [] [.inl (24, A0), .inl (36, A1), .inl (6, A2), .inr (3, A3)] n 480 (fun b => [(0, .ref (qb Y)), (1, .ref (xad (qX Y) 0)), (2, .ref (b 0)), (3, .ref (b 1)), (4, .int x4), (5, .ref (b 2)), (6, .ref (b 3)), (7, .int x7), (8, .int x8), (9, .int x9), (11, .int x11), (12, .int x12), (13, .int x13)]) (fun _ => [])) (σ : Mem) (n : Nat) (A0 : Nat → Int32) (A1 : Nat → Int32) (A2 : Nat → Int32) (A3 : Nat → Int64) (x4 : Int32) (x7 : Int32) (x8 : Int32) (x9 : Int32) (x11 : Int32) (x12 : Int32) (x13 : Int32) (h : BL_law_480 (qL Y) (qs Y) rl191 rl480 σ n A0 A1 A2 A3 x4 x7 x8 x9 x11 x12 x13 = some out) : JQ Y mL_law (some σ) [] [.inl (24, A0), .inl (36, A1), .inl (6, A2), .inr (3, A3)] n 480 (fun b => [(0, .ref (qb Y)), (1, .ref (xad (qX Y) 0)), (2, .ref (b 0)), (3, .ref (b 1)), (4, .int x4), (5, .ref (b 2)), (6, .ref (b 3)), (7, .int x7), (8, .int x8), (9, .int x9), (11, .int x11), (12, .int x12), (13, .int x13)]) (fun _ => []) := by
  refine q_iload 12 dL_law_480 rfl (fun _ => rfl) ?_
  refine q_iload 8 dL_law_482 rfl (fun _ => rfl) ?_
  refine q_icmp_ge dL_law_484 rfl rfl h (fun c h => ?_) (fun c h => ?_)
  · refine q_iload 10 dL_law_547 rfl (fun _ => rfl) ?_
    refine q_iconst dL_law_549 rfl ki_3 ?_
    refine q_icmp_le dL_law_550 rfl rfl h (fun c h => ?_) (fun c h => ?_)
    · refine q_sub [0, 1, 2, 3, 4, 5, 6, 7, 10] (fun b => [(0, .ref (qb Y)), (1, .ref (xad (qX Y) 0)), (2, .ref (b 0)), (3, .ref (b 1)), (4, .int x4), (5, .ref (b 2)), (6, .ref (b 3)), (7, .int x7), (11, .int x11)]) (fun _ => rfl) ?_
      exact jL_law_663 hE rl191 hr191 σ _ A0 A1 A2 A3 x4 x7 x11 h
    · refine q_aload 5 (fun b => b 2) dL_law_553 rfl (fun _ => rfl) ?_
      refine q_pick [0, 1, 3, 2] [.inl (24, A0), .inl (36, A1), .inr (3, A3), .inl (6, A2)] [] (fun b => [(0, .ref (qb Y)), (1, .ref (xad (qX Y) 0)), (2, .ref (b 0)), (3, .ref (b 1)), (4, .int x4), (5, .ref (b 3)), (6, .ref (b 2)), (7, .int x7), (8, .int x8), (9, .int x9), (11, .int x11), (12, .int x12), (13, .int x13)]) (fun b => [.ref (b 3)]) rfl rfl (by decide) rfl (fun _ => rfl) (fun _ => rfl) ?_
      obtain ⟨o324, hc, h⟩ := bn_of h
      refine q_callA [.inl (24, A0), .inl (36, A1), .inr (3, A3)] 3 1 4 (fun b => [.ref (b 3)]) (fun _ => []) (coL_copied A2 o324 hc) rfl rfl rfl rfl ms_RL_44 (by decide) h (fun _ => rfl) (fun _ => rfl) (fun _ => rfl) (fun _ => Nat.le_of_ble_eq_true rfl) (fun _ _ => rfl) (fun _ _ => rfl) (by decide) dL_law_555 rfl (fun h => ?_)
      show JQ Y mL_law (some σ) [] [.inl (24, A0), .inl (36, A1), .inr (3, A3), .inl (6, A2), .inl (6, o324)] _ 558 (fun b => [(0, .ref (qb Y)), (1, .ref (xad (qX Y) 0)), (2, .ref (b 0)), (3, .ref (b 1)), (4, .int x4), (5, .ref (b 3)), (6, .ref (b 2)), (7, .int x7), (8, .int x8), (9, .int x9), (11, .int x11), (12, .int x12), (13, .int x13)]) (fun b => [.ref (b 4)])
      refine q_astore (fun b => b 4) (fun b => [(13, .ref (b 4)), (0, .ref (qb Y)), (1, .ref (xad (qX Y) 0)), (2, .ref (b 0)), (3, .ref (b 1)), (4, .int x4), (5, .ref (b 3)), (6, .ref (b 2)), (7, .int x7), (8, .int x8), (9, .int x9), (11, .int x11), (12, .int x12)]) dL_law_558 rfl (show 13 < 27 by decide) (fun _ => rfl) ?_
      refine q_iconst dL_law_560 rfl ki_3 ?_
      refine q_newL 1 5 3 [.inl (24, A0), .inl (36, A1), .inr (3, A3), .inl (6, A2), .inl (6, o324), .inr (3, zL)] aw_J (by decide) (by decide) (by decide) (by decide) (by decide) rfl (fun _ _ => rfl) (fun _ _ => rfl) (by decide) rfl dL_law_561 rfl h (fun h => ?_)
      refine q_astore (fun b => b 5) (fun b => [(14, .ref (b 5)), (13, .ref (b 4)), (0, .ref (qb Y)), (1, .ref (xad (qX Y) 0)), (2, .ref (b 0)), (3, .ref (b 1)), (4, .int x4), (5, .ref (b 3)), (6, .ref (b 2)), (7, .int x7), (8, .int x8), (9, .int x9), (11, .int x11), (12, .int x12)]) dL_law_563 rfl (show 14 < 27 by decide) (fun _ => rfl) ?_
      refine q_aload 0 (fun b => b 5) dL_law_565 rfl (fun _ => rfl) ?_
      refine q_iconst dL_law_567 rfl ki_0 ?_
      refine q_aload 8 (fun b => b 2) dL_law_568 rfl (fun _ => rfl) ?_
      refine q_iconst dL_law_570 rfl ki_0 ?_
      refine q_lald 2 3 A3 rfl dL_law_571 rfl h (fun j327 h => ?_)
      refine q_last 5 3 zL (fun f328 => [.inl (24, A0), .inl (36, A1), .inr (3, A3), .inl (6, A2), .inl (6, o324), .inr (3, f328)]) rfl (fun _ => rfl) dL_law_572 rfl h (fun f328 h => ?_)
      refine q_iconst dL_law_573 rfl ki_0 ?_
      refine q_istoreV (fun b => [(15, .int (0 : Int32)), (14, .ref (b 5)), (13, .ref (b 4)), (0, .ref (qb Y)), (1, .ref (xad (qX Y) 0)), (2, .ref (b 0)), (3, .ref (b 1)), (4, .int x4), (5, .ref (b 3)), (6, .ref (b 2)), (7, .int x7), (8, .int x8), (9, .int x9), (11, .int x11), (12, .int x12)]) dL_law_574 rfl (show 15 < 27 by decide) (fun _ => rfl) ?_
      refine q_iconst dL_law_576 rfl ki_0 ?_
      refine q_istoreV (fun b => [(16, .int (0 : Int32)), (15, .int (0 : Int32)), (14, .ref (b 5)), (13, .ref (b 4)), (0, .ref (qb Y)), (1, .ref (xad (qX Y) 0)), (2, .ref (b 0)), (3, .ref (b 1)), (4, .int x4), (5, .ref (b 3)), (6, .ref (b 2)), (7, .int x7), (8, .int x8), (9, .int x9), (11, .int x11), (12, .int x12)]) dL_law_577 rfl (show 16 < 27 by decide) (fun _ => rfl) ?_
      refine q_sub [4, 5, 6, 7, 8, 9, 10, 11, 14, 3, 2, 0] (fun b => [(0, .ref (qb Y)), (1, .ref (xad (qX Y) 0)), (2, .ref (b 0)), (3, .ref (b 1)), (4, .int x4), (5, .ref (b 3)), (6, .ref (b 2)), (7, .int x7), (11, .int x11), (13, .ref (b 4)), (14, .ref (b 5)), (16, .int (0 : Int32))]) (fun _ => rfl) ?_
      refine q_pick [0, 1, 3, 2, 4, 5] [.inl (24, A0), .inl (36, A1), .inl (6, A2), .inr (3, A3), .inl (6, o324), .inr (3, f328)] [] (fun b => [(0, .ref (qb Y)), (1, .ref (xad (qX Y) 0)), (2, .ref (b 0)), (3, .ref (b 1)), (4, .int x4), (5, .ref (b 2)), (6, .ref (b 3)), (7, .int x7), (11, .int x11), (13, .ref (b 4)), (14, .ref (b 5)), (16, .int (0 : Int32))]) (fun _ => []) rfl rfl (by decide) rfl (fun _ => rfl) (fun _ => rfl) ?_
      exact lL_law_579 hE rl191 hr191 FU σ _ A0 A1 A2 A3 o324 f328 x4 x7 x11 (0 : Int32) h
  · refine q_iload 9 dL_law_487 rfl (fun _ => rfl) ?_
    refine q_iload 11 dL_law_489 rfl (fun _ => rfl) ?_
    refine q_idiv dL_law_491 rfl h (fun h => ?_)
    refine q_iload 4 dL_law_492 rfl (fun _ => rfl) ?_
    refine q_irem dL_law_494 rfl h (fun h => ?_)
    refine q_istore (fun x_329 => (fun b => [(14, .int x_329), (0, .ref (qb Y)), (1, .ref (xad (qX Y) 0)), (2, .ref (b 0)), (3, .ref (b 1)), (4, .int x4), (5, .ref (b 2)), (6, .ref (b 3)), (7, .int x7), (8, .int x8), (9, .int x9), (11, .int x11), (12, .int x12), (13, .int x13)])) dL_law_495 rfl (show 14 < 27 by decide) (fun _ _ => rfl) h (fun x_329 h => ?_)
    refine q_iload 12 dL_law_497 rfl (fun _ => rfl) ?_
    refine q_iload 5 dL_law_499 rfl (fun _ => rfl) ?_
    refine q_idiv dL_law_501 rfl h (fun h => ?_)
    refine q_if_le dL_law_502 rfl rfl h (fun c h => ?_) (fun c h => ?_)
    · refine q_iconst dL_law_513 rfl ki_1 ?_
      refine q_sub [1, 2, 3, 4, 5, 6, 7, 8, 9, 10, 11, 13, 0] (fun b => [(0, .ref (qb Y)), (1, .ref (xad (qX Y) 0)), (2, .ref (b 0)), (3, .ref (b 1)), (4, .int x4), (5, .ref (b 2)), (6, .ref (b 3)), (7, .int x7), (8, .int x8), (9, .int x9), (11, .int x11), (13, .int x13), (14, .int x_329)]) (fun _ => rfl) ?_
      exact jL_law_514 hE rl191 hr191 rl480 hr480 σ _ A0 A1 A2 A3 x4 x7 x8 x9 x11 x13 x_329 (1 : Int32) h
    · refine q_iload 12 dL_law_505 rfl (fun _ => rfl) ?_
      refine q_iload 5 dL_law_507 rfl (fun _ => rfl) ?_
      refine q_idiv dL_law_509 rfl h (fun h => ?_)
      refine q_goto dL_law_510 rfl ?_
      refine q_sub [1, 2, 3, 4, 5, 6, 7, 8, 9, 10, 11, 13, 0] (fun b => [(0, .ref (qb Y)), (1, .ref (xad (qX Y) 0)), (2, .ref (b 0)), (3, .ref (b 1)), (4, .int x4), (5, .ref (b 2)), (6, .ref (b 3)), (7, .int x7), (8, .int x8), (9, .int x9), (11, .int x11), (13, .int x13), (14, .int x_329)]) (fun _ => rfl) ?_
      exact jL_law_514 hE rl191 hr191 rl480 hr480 σ _ A0 A1 A2 A3 x4 x7 x8 x9 x11 x13 x_329 (x12 / x4) h
noncomputable def FL_law_480 (L : Nat) (xs : Nat → Int32) (rl191 : Mem → Nat → (Nat → Int32) → (Nat → Int32) → (Nat → Int32) → (Nat → Int64) → Int32 → Int32 → Option (Int32)) (fu : Nat) : Mem → Nat → (Nat → Int32) → (Nat → Int32) → (Nat → Int32) → (Nat → Int64) → Int32 → Int32 → Int32 → Int32 → Int32 → Int32 → Int32 → Option (Int32) :=
  Nat.rec (fun _ _ _ _ _ _ _ _ _ _ _ _ _ => none) (fun _ ih => BL_law_480 L xs rl191 ih) fu
theorem lL_law_480 {Y : QX} {out : Int32} (hE : ∀ σ2 : Mem, EndQ Y mL_law .ireturn [] (some σ2) [] (fun _ => [.int out])) (rl191 : Mem → Nat → (Nat → Int32) → (Nat → Int32) → (Nat → Int32) → (Nat → Int64) → Int32 → Int32 → Option (Int32)) (hr191 : ∀ (σ : Mem) (n : Nat) (A0 : Nat → Int32) (A1 : Nat → Int32) (A2 : Nat → Int32) (A3 : Nat → Int64) (x4 : Int32) (x7 : Int32), rl191 σ n A0 A1 A2 A3 x4 x7 = some out → JQ Y mL_law (some σ) [] [.inl (24, A0), .inl (36, A1), .inl (6, A2), .inr (3, A3)] n 191 (fun b => [(0, .ref (qb Y)), (1, .ref (xad (qX Y) 0)), (2, .ref (b 0)), (3, .ref (b 1)), (4, .int x4), (5, .ref (b 2)), (6, .ref (b 3)), (7, .int x7)]) (fun _ => [])) : ∀ (fu : Nat) (σ : Mem) (n : Nat) (A0 : Nat → Int32) (A1 : Nat → Int32) (A2 : Nat → Int32) (A3 : Nat → Int64) (x4 : Int32) (x7 : Int32) (x8 : Int32) (x9 : Int32) (x11 : Int32) (x12 : Int32) (x13 : Int32), FL_law_480 (qL Y) (qs Y) rl191 fu σ n A0 A1 A2 A3 x4 x7 x8 x9 x11 x12 x13 = some out → JQ Y mL_law (some σ) [] [.inl (24, A0), .inl (36, A1), .inl (6, A2), .inr (3, A3)] n 480 (fun b => [(0, .ref (qb Y)), (1, .ref (xad (qX Y) 0)), (2, .ref (b 0)), (3, .ref (b 1)), (4, .int x4), (5, .ref (b 2)), (6, .ref (b 3)), (7, .int x7), (8, .int x8), (9, .int x9), (11, .int x11), (12, .int x12), (13, .int x13)]) (fun _ => []) := by
  intro fu
  induction fu with
  | zero => intro σ n A0 A1 A2 A3 x4 x7 x8 x9 x11 x12 x13 h; exact nn h
  | succ fu ih => intro σ n A0 A1 A2 A3 x4 x7 x8 x9 x11 x12 x13 h; exact jL_law_480 hE rl191 hr191 (FL_law_480 (qL Y) (qs Y) rl191 fu) ih σ n A0 A1 A2 A3 x4 x7 x8 x9 x11 x12 x13 h
noncomputable def FL_law_461 (L : Nat) (xs : Nat → Int32) (rl191 : Mem → Nat → (Nat → Int32) → (Nat → Int32) → (Nat → Int32) → (Nat → Int64) → Int32 → Int32 → Option (Int32)) (σ : Mem) (n : Nat) (A0 : Nat → Int32) (A1 : Nat → Int32) (A2 : Nat → Int32) (A3 : Nat → Int64) (x4 : Int32) (x7 : Int32) (x8 : Int32) (x9 : Int32) (x10 : Int32) (x11 : Int32) : Option (Int32) :=
  if x4 ≤ 0 then
  (dzI (1 : Int32) <|
  nm (x10 / (1 : Int32)) fun x_330 =>
  FL_law_480 L xs rl191 FU σ n A0 A1 A2 A3 x4 x7 x8 x9 x11 x_330 (0 : Int32))
  else
  (dzI x4 <|
  nm (x10 / x4) fun x_331 =>
  FL_law_480 L xs rl191 FU σ n A0 A1 A2 A3 x4 x7 x8 x9 x11 x_331 (0 : Int32))
set_option maxHeartbeats 4000000 in
set_option maxRecDepth 100000 in
theorem jL_law_461 {Y : QX} {out : Int32} (hE : ∀ σ2 : Mem, EndQ Y mL_law .ireturn [] (some σ2) [] (fun _ => [.int out])) (rl191 : Mem → Nat → (Nat → Int32) → (Nat → Int32) → (Nat → Int32) → (Nat → Int64) → Int32 → Int32 → Option (Int32)) (hr191 : ∀ (σ : Mem) (n : Nat) (A0 : Nat → Int32) (A1 : Nat → Int32) (A2 : Nat → Int32) (A3 : Nat → Int64) (x4 : Int32) (x7 : Int32), rl191 σ n A0 A1 A2 A3 x4 x7 = some out → JQ Y mL_law (some σ) [] [.inl (24, A0), .inl (36, A1), .inl (6, A2), .inr (3, A3)] n 191 (fun b => [(0, .ref (qb Y)), (1, .ref (xad (qX Y) 0)), (2, .ref (b 0)), (3, .ref (b 1)), (4, .int x4), (5, .ref (b 2)), (6, .ref (b 3)), (7, .int x7)]) (fun _ => [])) (σ : Mem) (n : Nat) (A0 : Nat → Int32) (A1 : Nat → Int32) (A2 : Nat → Int32) (A3 : Nat → Int64) (x4 : Int32) (x7 : Int32) (x8 : Int32) (x9 : Int32) (x10 : Int32) (x11 : Int32) (h : FL_law_461 (qL Y) (qs Y) rl191 σ n A0 A1 A2 A3 x4 x7 x8 x9 x10 x11 = some out) : JQ Y mL_law (some σ) [] [.inl (24, A0), .inl (36, A1), .inl (6, A2), .inr (3, A3)] n 461 (fun b => [(0, .ref (qb Y)), (1, .ref (xad (qX Y) 0)), (2, .ref (b 0)), (3, .ref (b 1)), (4, .int x4), (5, .ref (b 2)), (6, .ref (b 3)), (7, .int x7), (8, .int x8), (9, .int x9), (10, .int x10), (11, .int x11)]) (fun _ => []) := by
  refine q_iload 10 dL_law_461 rfl (fun _ => rfl) ?_
  refine q_iload 4 dL_law_463 rfl (fun _ => rfl) ?_
  refine q_if_le dL_law_465 rfl rfl h (fun c h => ?_) (fun c h => ?_)
  · refine q_iconst dL_law_473 rfl ki_1 ?_
    refine q_idiv dL_law_474 rfl h (fun h => ?_)
    refine q_istore (fun x_330 => (fun b => [(12, .int x_330), (0, .ref (qb Y)), (1, .ref (xad (qX Y) 0)), (2, .ref (b 0)), (3, .ref (b 1)), (4, .int x4), (5, .ref (b 2)), (6, .ref (b 3)), (7, .int x7), (8, .int x8), (9, .int x9), (10, .int x10), (11, .int x11)])) dL_law_475 rfl (show 12 < 27 by decide) (fun _ _ => rfl) h (fun x_330 h => ?_)
    refine q_iconst dL_law_477 rfl ki_0 ?_
    refine q_istoreV (fun b => [(13, .int (0 : Int32)), (12, .int x_330), (0, .ref (qb Y)), (1, .ref (xad (qX Y) 0)), (2, .ref (b 0)), (3, .ref (b 1)), (4, .int x4), (5, .ref (b 2)), (6, .ref (b 3)), (7, .int x7), (8, .int x8), (9, .int x9), (10, .int x10), (11, .int x11)]) dL_law_478 rfl (show 13 < 27 by decide) (fun _ => rfl) ?_
    refine q_sub [2, 3, 4, 5, 6, 7, 8, 9, 10, 11, 13, 1, 0] (fun b => [(0, .ref (qb Y)), (1, .ref (xad (qX Y) 0)), (2, .ref (b 0)), (3, .ref (b 1)), (4, .int x4), (5, .ref (b 2)), (6, .ref (b 3)), (7, .int x7), (8, .int x8), (9, .int x9), (11, .int x11), (12, .int x_330), (13, .int (0 : Int32))]) (fun _ => rfl) ?_
    exact lL_law_480 hE rl191 hr191 FU σ _ A0 A1 A2 A3 x4 x7 x8 x9 x11 x_330 (0 : Int32) h
  · refine q_iload 4 dL_law_468 rfl (fun _ => rfl) ?_
    refine q_goto dL_law_470 rfl ?_
    refine q_idiv dL_law_474 rfl h (fun h => ?_)
    refine q_istore (fun x_331 => (fun b => [(12, .int x_331), (0, .ref (qb Y)), (1, .ref (xad (qX Y) 0)), (2, .ref (b 0)), (3, .ref (b 1)), (4, .int x4), (5, .ref (b 2)), (6, .ref (b 3)), (7, .int x7), (8, .int x8), (9, .int x9), (10, .int x10), (11, .int x11)])) dL_law_475 rfl (show 12 < 27 by decide) (fun _ _ => rfl) h (fun x_331 h => ?_)
    refine q_iconst dL_law_477 rfl ki_0 ?_
    refine q_istoreV (fun b => [(13, .int (0 : Int32)), (12, .int x_331), (0, .ref (qb Y)), (1, .ref (xad (qX Y) 0)), (2, .ref (b 0)), (3, .ref (b 1)), (4, .int x4), (5, .ref (b 2)), (6, .ref (b 3)), (7, .int x7), (8, .int x8), (9, .int x9), (10, .int x10), (11, .int x11)]) dL_law_478 rfl (show 13 < 27 by decide) (fun _ => rfl) ?_
    refine q_sub [2, 3, 4, 5, 6, 7, 8, 9, 10, 11, 13, 1, 0] (fun b => [(0, .ref (qb Y)), (1, .ref (xad (qX Y) 0)), (2, .ref (b 0)), (3, .ref (b 1)), (4, .int x4), (5, .ref (b 2)), (6, .ref (b 3)), (7, .int x7), (8, .int x8), (9, .int x9), (11, .int x11), (12, .int x_331), (13, .int (0 : Int32))]) (fun _ => rfl) ?_
    exact lL_law_480 hE rl191 hr191 FU σ _ A0 A1 A2 A3 x4 x7 x8 x9 x11 x_331 (0 : Int32) h
noncomputable def FL_law_419 (L : Nat) (xs : Nat → Int32) (rl191 : Mem → Nat → (Nat → Int32) → (Nat → Int32) → (Nat → Int32) → (Nat → Int64) → Int32 → Int32 → Option (Int32)) (σ : Mem) (n : Nat) (A0 : Nat → Int32) (A1 : Nat → Int32) (A2 : Nat → Int32) (A3 : Nat → Int64) (x4 : Int32) (x7 : Int32) (x8 : Int32) (x9 : Int32) (x10 : Int32) : Option (Int32) :=
  bi (FX8_fewest σ x7 (-1 : Int32)) fun r332 σ333 =>
  if x8 ≤ 0 then
  (if r332 ≤ 0 then
  (if r332 = 0 then
  (some (0 : Int32))
  else
  (FL_law_461 L xs rl191 σ333 n A0 A1 A2 A3 x4 x7 x8 x9 x10 r332))
  else
  (if r332 < (4 : Int32) then
  (some (0 : Int32))
  else
  (if r332 = 0 then
  (some (0 : Int32))
  else
  (FL_law_461 L xs rl191 σ333 n A0 A1 A2 A3 x4 x7 x8 x9 x10 r332))))
  else
  (if r332 = x8 then
  (FL_law_461 L xs rl191 σ333 n A0 A1 A2 A3 x4 x7 x8 x9 x10 r332)
  else
  (some (0 : Int32)))
set_option maxHeartbeats 4000000 in
set_option maxRecDepth 100000 in
theorem jL_law_419 {Y : QX} {out : Int32} (hE : ∀ σ2 : Mem, EndQ Y mL_law .ireturn [] (some σ2) [] (fun _ => [.int out])) (rl191 : Mem → Nat → (Nat → Int32) → (Nat → Int32) → (Nat → Int32) → (Nat → Int64) → Int32 → Int32 → Option (Int32)) (hr191 : ∀ (σ : Mem) (n : Nat) (A0 : Nat → Int32) (A1 : Nat → Int32) (A2 : Nat → Int32) (A3 : Nat → Int64) (x4 : Int32) (x7 : Int32), rl191 σ n A0 A1 A2 A3 x4 x7 = some out → JQ Y mL_law (some σ) [] [.inl (24, A0), .inl (36, A1), .inl (6, A2), .inr (3, A3)] n 191 (fun b => [(0, .ref (qb Y)), (1, .ref (xad (qX Y) 0)), (2, .ref (b 0)), (3, .ref (b 1)), (4, .int x4), (5, .ref (b 2)), (6, .ref (b 3)), (7, .int x7)]) (fun _ => [])) (σ : Mem) (n : Nat) (A0 : Nat → Int32) (A1 : Nat → Int32) (A2 : Nat → Int32) (A3 : Nat → Int64) (x4 : Int32) (x7 : Int32) (x8 : Int32) (x9 : Int32) (x10 : Int32) (h : FL_law_419 (qL Y) (qs Y) rl191 σ n A0 A1 A2 A3 x4 x7 x8 x9 x10 = some out) : JQ Y mL_law (some σ) [] [.inl (24, A0), .inl (36, A1), .inl (6, A2), .inr (3, A3)] n 419 (fun b => [(0, .ref (qb Y)), (1, .ref (xad (qX Y) 0)), (2, .ref (b 0)), (3, .ref (b 1)), (4, .int x4), (5, .ref (b 2)), (6, .ref (b 3)), (7, .int x7), (8, .int x8), (9, .int x9), (10, .int x10)]) (fun _ => []) := by
  refine q_aload_n 1 (fun _ => xad (qX Y) 0) dL_law_419 rfl rfl (fun _ => rfl) ?_
  refine q_iload 7 dL_law_420 rfl (fun _ => rfl) ?_
  refine q_iconst dL_law_422 rfl ki_m1 ?_
  obtain ⟨r332, σ333, hc, h⟩ := bi_of h
  refine q_callX [.int x7, .int (-1 : Int32)] [] (coX8_fewest σ x7 (-1 : Int32) r332 σ333 hc) mv_RL_53 (by decide) rfl rfl (fun _ => rfl) (Nat.le_of_ble_eq_true rfl) dL_law_423 rfl ?_
  refine q_istoreV (fun b => [(11, .int r332), (0, .ref (qb Y)), (1, .ref (xad (qX Y) 0)), (2, .ref (b 0)), (3, .ref (b 1)), (4, .int x4), (5, .ref (b 2)), (6, .ref (b 3)), (7, .int x7), (8, .int x8), (9, .int x9), (10, .int x10)]) dL_law_426 rfl (show 11 < 27 by decide) (fun _ => rfl) ?_
  refine q_iload 9 dL_law_428 rfl (fun _ => rfl) ?_
  refine q_if_le dL_law_430 rfl rfl h (fun c h => ?_) (fun c h => ?_)
  · refine q_iload 0 dL_law_443 rfl (fun _ => rfl) ?_
    refine q_if_le dL_law_445 rfl rfl h (fun c h => ?_) (fun c h => ?_)
    · refine q_iload 0 dL_law_454 rfl (fun _ => rfl) ?_
      refine q_if_ne dL_law_456 rfl rfl h (fun c h => ?_) (fun c h => ?_)
      · refine q_sub [1, 2, 3, 4, 5, 6, 7, 8, 9, 10, 11, 0] (fun b => [(0, .ref (qb Y)), (1, .ref (xad (qX Y) 0)), (2, .ref (b 0)), (3, .ref (b 1)), (4, .int x4), (5, .ref (b 2)), (6, .ref (b 3)), (7, .int x7), (8, .int x8), (9, .int x9), (10, .int x10), (11, .int r332)]) (fun _ => rfl) ?_
        exact jL_law_461 hE rl191 hr191 σ333 _ A0 A1 A2 A3 x4 x7 x8 x9 x10 r332 h
      · refine q_iconst dL_law_459 rfl ki_0 ?_
        refine q_sub [0, 1, 2, 5, 8, 9, 10, 11] (fun _ => [(11, .int r332), (0, .ref (qb Y)), (1, .ref (xad (qX Y) 0)), (4, .int x4), (7, .int x7), (8, .int x8), (9, .int x9), (10, .int x10)]) (fun _ => rfl) ?_
        refine q_pick [] [] [] (fun _ => [(11, .int r332), (0, .ref (qb Y)), (1, .ref (xad (qX Y) 0)), (4, .int x4), (7, .int x7), (8, .int x8), (9, .int x9), (10, .int x10)]) (fun _ => [.int (0 : Int32)]) rfl rfl (by decide) rfl (fun _ => rfl) (fun _ => rfl) ?_
        cases h
        exact hE _ _ _ _ dL_law_460
    · refine q_iload 0 dL_law_448 rfl (fun _ => rfl) ?_
      refine q_iconst dL_law_450 rfl ki_4 ?_
      refine q_icmp_lt dL_law_451 rfl rfl h (fun c h => ?_) (fun c h => ?_)
      · refine q_iconst dL_law_459 rfl ki_0 ?_
        refine q_sub [0, 1, 2, 5, 8, 9, 10, 11] (fun _ => [(11, .int r332), (0, .ref (qb Y)), (1, .ref (xad (qX Y) 0)), (4, .int x4), (7, .int x7), (8, .int x8), (9, .int x9), (10, .int x10)]) (fun _ => rfl) ?_
        refine q_pick [] [] [] (fun _ => [(11, .int r332), (0, .ref (qb Y)), (1, .ref (xad (qX Y) 0)), (4, .int x4), (7, .int x7), (8, .int x8), (9, .int x9), (10, .int x10)]) (fun _ => [.int (0 : Int32)]) rfl rfl (by decide) rfl (fun _ => rfl) (fun _ => rfl) ?_
        cases h
        exact hE _ _ _ _ dL_law_460
      · refine q_iload 0 dL_law_454 rfl (fun _ => rfl) ?_
        refine q_if_ne dL_law_456 rfl rfl h (fun c h => ?_) (fun c h => ?_)
        · refine q_sub [1, 2, 3, 4, 5, 6, 7, 8, 9, 10, 11, 0] (fun b => [(0, .ref (qb Y)), (1, .ref (xad (qX Y) 0)), (2, .ref (b 0)), (3, .ref (b 1)), (4, .int x4), (5, .ref (b 2)), (6, .ref (b 3)), (7, .int x7), (8, .int x8), (9, .int x9), (10, .int x10), (11, .int r332)]) (fun _ => rfl) ?_
          exact jL_law_461 hE rl191 hr191 σ333 _ A0 A1 A2 A3 x4 x7 x8 x9 x10 r332 h
        · refine q_iconst dL_law_459 rfl ki_0 ?_
          refine q_sub [0, 1, 2, 5, 8, 9, 10, 11] (fun _ => [(11, .int r332), (0, .ref (qb Y)), (1, .ref (xad (qX Y) 0)), (4, .int x4), (7, .int x7), (8, .int x8), (9, .int x9), (10, .int x10)]) (fun _ => rfl) ?_
          refine q_pick [] [] [] (fun _ => [(11, .int r332), (0, .ref (qb Y)), (1, .ref (xad (qX Y) 0)), (4, .int x4), (7, .int x7), (8, .int x8), (9, .int x9), (10, .int x10)]) (fun _ => [.int (0 : Int32)]) rfl rfl (by decide) rfl (fun _ => rfl) (fun _ => rfl) ?_
          cases h
          exact hE _ _ _ _ dL_law_460
  · refine q_iload 0 dL_law_433 rfl (fun _ => rfl) ?_
    refine q_iload 9 dL_law_435 rfl (fun _ => rfl) ?_
    refine q_icmp_eq dL_law_437 rfl rfl h (fun c h => ?_) (fun c h => ?_)
    · refine q_sub [1, 2, 3, 4, 5, 6, 7, 8, 9, 10, 11, 0] (fun b => [(0, .ref (qb Y)), (1, .ref (xad (qX Y) 0)), (2, .ref (b 0)), (3, .ref (b 1)), (4, .int x4), (5, .ref (b 2)), (6, .ref (b 3)), (7, .int x7), (8, .int x8), (9, .int x9), (10, .int x10), (11, .int r332)]) (fun _ => rfl) ?_
      exact jL_law_461 hE rl191 hr191 σ333 _ A0 A1 A2 A3 x4 x7 x8 x9 x10 r332 h
    · refine q_goto dL_law_440 rfl ?_
      refine q_iconst dL_law_459 rfl ki_0 ?_
      refine q_sub [0, 1, 2, 5, 8, 9, 10, 11] (fun _ => [(11, .int r332), (0, .ref (qb Y)), (1, .ref (xad (qX Y) 0)), (4, .int x4), (7, .int x7), (8, .int x8), (9, .int x9), (10, .int x10)]) (fun _ => rfl) ?_
      refine q_pick [] [] [] (fun _ => [(11, .int r332), (0, .ref (qb Y)), (1, .ref (xad (qX Y) 0)), (4, .int x4), (7, .int x7), (8, .int x8), (9, .int x9), (10, .int x10)]) (fun _ => [.int (0 : Int32)]) rfl rfl (by decide) rfl (fun _ => rfl) (fun _ => rfl) ?_
      cases h
      exact hE _ _ _ _ dL_law_460
noncomputable def FL_law_389 (L : Nat) (xs : Nat → Int32) (rl191 : Mem → Nat → (Nat → Int32) → (Nat → Int32) → (Nat → Int32) → (Nat → Int64) → Int32 → Int32 → Option (Int32)) (rl210 : Mem → Nat → (Nat → Int32) → (Nat → Int32) → (Nat → Int32) → (Nat → Int64) → Int32 → Int32 → Int32 → Int32 → Int32 → Int32 → Option (Int32)) (rl231 : Mem → Nat → (Nat → Int32) → (Nat → Int32) → (Nat → Int32) → (Nat → Int64) → Int32 → Int32 → Int32 → Int32 → Int32 → Int32 → Int32 → Option (Int32)) (σ : Mem) (n : Nat) (A0 : Nat → Int32) (A1 : Nat → Int32) (A2 : Nat → Int32) (A3 : Nat → Int64) (x4 : Int32) (x7 : Int32) (x8 : Int32) (x9 : Int32) (x10 : Int32) (x11 : Int32) (x12 : Int32) (x16 : Int32) (x17 : Int32) : Option (Int32) :=
  if x17 = 0 then
  (nm (x12 + (1 : Int32)) fun x_334 =>
  rl231 σ n A0 A1 A2 A3 x4 x7 x8 x9 x10 x11 x_334)
  else
  (if x16 = 0 then
  (nm (x12 + (1 : Int32)) fun x_335 =>
  rl231 σ n A0 A1 A2 A3 x4 x7 x8 x9 x10 x11 x_335)
  else
  (nm (x12 + (1 : Int32)) fun x_336 =>
  rl231 σ n A0 A1 A2 A3 x4 x7 x11 x12 x10 x11 x_336))
set_option maxHeartbeats 4000000 in
set_option maxRecDepth 100000 in
theorem jL_law_389 {Y : QX} {out : Int32} (hE : ∀ σ2 : Mem, EndQ Y mL_law .ireturn [] (some σ2) [] (fun _ => [.int out])) (rl191 : Mem → Nat → (Nat → Int32) → (Nat → Int32) → (Nat → Int32) → (Nat → Int64) → Int32 → Int32 → Option (Int32)) (hr191 : ∀ (σ : Mem) (n : Nat) (A0 : Nat → Int32) (A1 : Nat → Int32) (A2 : Nat → Int32) (A3 : Nat → Int64) (x4 : Int32) (x7 : Int32), rl191 σ n A0 A1 A2 A3 x4 x7 = some out → JQ Y mL_law (some σ) [] [.inl (24, A0), .inl (36, A1), .inl (6, A2), .inr (3, A3)] n 191 (fun b => [(0, .ref (qb Y)), (1, .ref (xad (qX Y) 0)), (2, .ref (b 0)), (3, .ref (b 1)), (4, .int x4), (5, .ref (b 2)), (6, .ref (b 3)), (7, .int x7)]) (fun _ => [])) (rl210 : Mem → Nat → (Nat → Int32) → (Nat → Int32) → (Nat → Int32) → (Nat → Int64) → Int32 → Int32 → Int32 → Int32 → Int32 → Int32 → Option (Int32)) (hr210 : ∀ (σ : Mem) (n : Nat) (A0 : Nat → Int32) (A1 : Nat → Int32) (A2 : Nat → Int32) (A3 : Nat → Int64) (x4 : Int32) (x7 : Int32) (x8 : Int32) (x9 : Int32) (x10 : Int32) (x11 : Int32), rl210 σ n A0 A1 A2 A3 x4 x7 x8 x9 x10 x11 = some out → JQ Y mL_law (some σ) [] [.inl (24, A0), .inl (36, A1), .inl (6, A2), .inr (3, A3)] n 210 (fun b => [(0, .ref (qb Y)), (1, .ref (xad (qX Y) 0)), (2, .ref (b 0)), (3, .ref (b 1)), (4, .int x4), (5, .ref (b 2)), (6, .ref (b 3)), (7, .int x7), (8, .int x8), (9, .int x9), (10, .int x10), (11, .int x11)]) (fun _ => [])) (rl231 : Mem → Nat → (Nat → Int32) → (Nat → Int32) → (Nat → Int32) → (Nat → Int64) → Int32 → Int32 → Int32 → Int32 → Int32 → Int32 → Int32 → Option (Int32)) (hr231 : ∀ (σ : Mem) (n : Nat) (A0 : Nat → Int32) (A1 : Nat → Int32) (A2 : Nat → Int32) (A3 : Nat → Int64) (x4 : Int32) (x7 : Int32) (x8 : Int32) (x9 : Int32) (x10 : Int32) (x11 : Int32) (x12 : Int32), rl231 σ n A0 A1 A2 A3 x4 x7 x8 x9 x10 x11 x12 = some out → JQ Y mL_law (some σ) [] [.inl (24, A0), .inl (36, A1), .inl (6, A2), .inr (3, A3)] n 231 (fun b => [(0, .ref (qb Y)), (1, .ref (xad (qX Y) 0)), (2, .ref (b 0)), (3, .ref (b 1)), (4, .int x4), (5, .ref (b 2)), (6, .ref (b 3)), (7, .int x7), (8, .int x8), (9, .int x9), (10, .int x10), (11, .int x11), (12, .int x12)]) (fun _ => [])) (σ : Mem) (n : Nat) (A0 : Nat → Int32) (A1 : Nat → Int32) (A2 : Nat → Int32) (A3 : Nat → Int64) (x4 : Int32) (x7 : Int32) (x8 : Int32) (x9 : Int32) (x10 : Int32) (x11 : Int32) (x12 : Int32) (x16 : Int32) (x17 : Int32) (h : FL_law_389 (qL Y) (qs Y) rl191 rl210 rl231 σ n A0 A1 A2 A3 x4 x7 x8 x9 x10 x11 x12 x16 x17 = some out) : JQ Y mL_law (some σ) [] [.inl (24, A0), .inl (36, A1), .inl (6, A2), .inr (3, A3)] n 389 (fun b => [(0, .ref (qb Y)), (1, .ref (xad (qX Y) 0)), (2, .ref (b 0)), (3, .ref (b 1)), (4, .int x4), (5, .ref (b 2)), (6, .ref (b 3)), (7, .int x7), (8, .int x8), (9, .int x9), (10, .int x10), (11, .int x11), (12, .int x12), (16, .int x16), (17, .int x17)]) (fun _ => []) := by
  refine q_iload 14 dL_law_389 rfl (fun _ => rfl) ?_
  refine q_if_eq dL_law_391 rfl rfl h (fun c h => ?_) (fun c h => ?_)
  · refine q_iinc 12 (fun x_334 => (fun b => [(12, .int x_334), (0, .ref (qb Y)), (1, .ref (xad (qX Y) 0)), (2, .ref (b 0)), (3, .ref (b 1)), (4, .int x4), (5, .ref (b 2)), (6, .ref (b 3)), (7, .int x7), (8, .int x8), (9, .int x9), (10, .int x10), (11, .int x11), (16, .int x16), (17, .int x17)])) dL_law_407 rfl (fun _ => rfl) ki_1 (show 12 < 27 by decide) (fun _ _ => rfl) h (fun x_334 h => ?_)
    refine q_goto dL_law_410 rfl ?_
    refine q_sub [1, 2, 3, 4, 5, 6, 7, 8, 9, 10, 11, 12, 0] (fun b => [(0, .ref (qb Y)), (1, .ref (xad (qX Y) 0)), (2, .ref (b 0)), (3, .ref (b 1)), (4, .int x4), (5, .ref (b 2)), (6, .ref (b 3)), (7, .int x7), (8, .int x8), (9, .int x9), (10, .int x10), (11, .int x11), (12, .int x_334)]) (fun _ => rfl) ?_
    exact hr231 σ _ A0 A1 A2 A3 x4 x7 x8 x9 x10 x11 x_334 h
  · refine q_iload 13 dL_law_394 rfl (fun _ => rfl) ?_
    refine q_if_eq dL_law_396 rfl rfl h (fun c h => ?_) (fun c h => ?_)
    · refine q_iinc 12 (fun x_335 => (fun b => [(12, .int x_335), (0, .ref (qb Y)), (1, .ref (xad (qX Y) 0)), (2, .ref (b 0)), (3, .ref (b 1)), (4, .int x4), (5, .ref (b 2)), (6, .ref (b 3)), (7, .int x7), (8, .int x8), (9, .int x9), (10, .int x10), (11, .int x11), (16, .int x16), (17, .int x17)])) dL_law_407 rfl (fun _ => rfl) ki_1 (show 12 < 27 by decide) (fun _ _ => rfl) h (fun x_335 h => ?_)
      refine q_goto dL_law_410 rfl ?_
      refine q_sub [1, 2, 3, 4, 5, 6, 7, 8, 9, 10, 11, 12, 0] (fun b => [(0, .ref (qb Y)), (1, .ref (xad (qX Y) 0)), (2, .ref (b 0)), (3, .ref (b 1)), (4, .int x4), (5, .ref (b 2)), (6, .ref (b 3)), (7, .int x7), (8, .int x8), (9, .int x9), (10, .int x10), (11, .int x11), (12, .int x_335)]) (fun _ => rfl) ?_
      exact hr231 σ _ A0 A1 A2 A3 x4 x7 x8 x9 x10 x11 x_335 h
    · refine q_iload 11 dL_law_399 rfl (fun _ => rfl) ?_
      refine q_istoreV (fun b => [(8, .int x11), (0, .ref (qb Y)), (1, .ref (xad (qX Y) 0)), (2, .ref (b 0)), (3, .ref (b 1)), (4, .int x4), (5, .ref (b 2)), (6, .ref (b 3)), (7, .int x7), (9, .int x9), (10, .int x10), (11, .int x11), (12, .int x12), (16, .int x16), (17, .int x17)]) dL_law_401 rfl (show 8 < 27 by decide) (fun _ => rfl) ?_
      refine q_iload 12 dL_law_403 rfl (fun _ => rfl) ?_
      refine q_istoreV (fun b => [(9, .int x12), (8, .int x11), (0, .ref (qb Y)), (1, .ref (xad (qX Y) 0)), (2, .ref (b 0)), (3, .ref (b 1)), (4, .int x4), (5, .ref (b 2)), (6, .ref (b 3)), (7, .int x7), (10, .int x10), (11, .int x11), (12, .int x12), (16, .int x16), (17, .int x17)]) dL_law_405 rfl (show 9 < 27 by decide) (fun _ => rfl) ?_
      refine q_iinc 12 (fun x_336 => (fun b => [(12, .int x_336), (9, .int x12), (8, .int x11), (0, .ref (qb Y)), (1, .ref (xad (qX Y) 0)), (2, .ref (b 0)), (3, .ref (b 1)), (4, .int x4), (5, .ref (b 2)), (6, .ref (b 3)), (7, .int x7), (10, .int x10), (11, .int x11), (16, .int x16), (17, .int x17)])) dL_law_407 rfl (fun _ => rfl) ki_1 (show 12 < 27 by decide) (fun _ _ => rfl) h (fun x_336 h => ?_)
      refine q_goto dL_law_410 rfl ?_
      refine q_sub [3, 4, 5, 6, 7, 8, 9, 10, 2, 1, 11, 12, 0] (fun b => [(0, .ref (qb Y)), (1, .ref (xad (qX Y) 0)), (2, .ref (b 0)), (3, .ref (b 1)), (4, .int x4), (5, .ref (b 2)), (6, .ref (b 3)), (7, .int x7), (8, .int x11), (9, .int x12), (10, .int x10), (11, .int x11), (12, .int x_336)]) (fun _ => rfl) ?_
      exact hr231 σ _ A0 A1 A2 A3 x4 x7 x11 x12 x10 x11 x_336 h
noncomputable def FL_law_358 (L : Nat) (xs : Nat → Int32) (rl191 : Mem → Nat → (Nat → Int32) → (Nat → Int32) → (Nat → Int32) → (Nat → Int64) → Int32 → Int32 → Option (Int32)) (rl210 : Mem → Nat → (Nat → Int32) → (Nat → Int32) → (Nat → Int32) → (Nat → Int64) → Int32 → Int32 → Int32 → Int32 → Int32 → Int32 → Option (Int32)) (rl231 : Mem → Nat → (Nat → Int32) → (Nat → Int32) → (Nat → Int32) → (Nat → Int64) → Int32 → Int32 → Int32 → Int32 → Int32 → Int32 → Int32 → Option (Int32)) (rl288 : Mem → Nat → (Nat → Int32) → (Nat → Int32) → (Nat → Int32) → (Nat → Int64) → (Nat → Int32) → (Nat → Int64) → Int32 → Int32 → Int32 → Int32 → Int32 → Int32 → Int32 → Int32 → Int32 → Int32 → Int32 → Option (Int32)) (σ : Mem) (n : Nat) (A0 : Nat → Int32) (A1 : Nat → Int32) (A2 : Nat → Int32) (A3 : Nat → Int64) (A4 : Nat → Int32) (A5 : Nat → Int64) (x4 : Int32) (x7 : Int32) (x8 : Int32) (x9 : Int32) (x10 : Int32) (x11 : Int32) (x12 : Int32) (x15 : Int32) (x18 : Int32) (x20 : Int32) (s0 : Int32) : Option (Int32) :=
  if s0 = 0 then
  (nm (x18 + (1 : Int32)) fun x_337 =>
  rl288 σ n A0 A1 A2 A3 A4 A5 x4 x7 x8 x9 x10 x11 x12 x15 (0 : Int32) s0 x_337)
  else
  (if ((x20 >>> (x7 &&& 31)) &&& (1 : Int32)) = (1 : Int32) then
  (nm (x18 + (1 : Int32)) fun x_339 =>
  rl288 σ n A0 A1 A2 A3 A4 A5 x4 x7 x8 x9 x10 x11 x12 x15 (1 : Int32) s0 x_339)
  else
  (nm (x18 + (1 : Int32)) fun x_338 =>
  rl288 σ n A0 A1 A2 A3 A4 A5 x4 x7 x8 x9 x10 x11 x12 x15 (0 : Int32) s0 x_338))
set_option maxHeartbeats 4000000 in
set_option maxRecDepth 100000 in
theorem jL_law_358 {Y : QX} {out : Int32} (hE : ∀ σ2 : Mem, EndQ Y mL_law .ireturn [] (some σ2) [] (fun _ => [.int out])) (rl191 : Mem → Nat → (Nat → Int32) → (Nat → Int32) → (Nat → Int32) → (Nat → Int64) → Int32 → Int32 → Option (Int32)) (hr191 : ∀ (σ : Mem) (n : Nat) (A0 : Nat → Int32) (A1 : Nat → Int32) (A2 : Nat → Int32) (A3 : Nat → Int64) (x4 : Int32) (x7 : Int32), rl191 σ n A0 A1 A2 A3 x4 x7 = some out → JQ Y mL_law (some σ) [] [.inl (24, A0), .inl (36, A1), .inl (6, A2), .inr (3, A3)] n 191 (fun b => [(0, .ref (qb Y)), (1, .ref (xad (qX Y) 0)), (2, .ref (b 0)), (3, .ref (b 1)), (4, .int x4), (5, .ref (b 2)), (6, .ref (b 3)), (7, .int x7)]) (fun _ => [])) (rl210 : Mem → Nat → (Nat → Int32) → (Nat → Int32) → (Nat → Int32) → (Nat → Int64) → Int32 → Int32 → Int32 → Int32 → Int32 → Int32 → Option (Int32)) (hr210 : ∀ (σ : Mem) (n : Nat) (A0 : Nat → Int32) (A1 : Nat → Int32) (A2 : Nat → Int32) (A3 : Nat → Int64) (x4 : Int32) (x7 : Int32) (x8 : Int32) (x9 : Int32) (x10 : Int32) (x11 : Int32), rl210 σ n A0 A1 A2 A3 x4 x7 x8 x9 x10 x11 = some out → JQ Y mL_law (some σ) [] [.inl (24, A0), .inl (36, A1), .inl (6, A2), .inr (3, A3)] n 210 (fun b => [(0, .ref (qb Y)), (1, .ref (xad (qX Y) 0)), (2, .ref (b 0)), (3, .ref (b 1)), (4, .int x4), (5, .ref (b 2)), (6, .ref (b 3)), (7, .int x7), (8, .int x8), (9, .int x9), (10, .int x10), (11, .int x11)]) (fun _ => [])) (rl231 : Mem → Nat → (Nat → Int32) → (Nat → Int32) → (Nat → Int32) → (Nat → Int64) → Int32 → Int32 → Int32 → Int32 → Int32 → Int32 → Int32 → Option (Int32)) (hr231 : ∀ (σ : Mem) (n : Nat) (A0 : Nat → Int32) (A1 : Nat → Int32) (A2 : Nat → Int32) (A3 : Nat → Int64) (x4 : Int32) (x7 : Int32) (x8 : Int32) (x9 : Int32) (x10 : Int32) (x11 : Int32) (x12 : Int32), rl231 σ n A0 A1 A2 A3 x4 x7 x8 x9 x10 x11 x12 = some out → JQ Y mL_law (some σ) [] [.inl (24, A0), .inl (36, A1), .inl (6, A2), .inr (3, A3)] n 231 (fun b => [(0, .ref (qb Y)), (1, .ref (xad (qX Y) 0)), (2, .ref (b 0)), (3, .ref (b 1)), (4, .int x4), (5, .ref (b 2)), (6, .ref (b 3)), (7, .int x7), (8, .int x8), (9, .int x9), (10, .int x10), (11, .int x11), (12, .int x12)]) (fun _ => [])) (rl288 : Mem → Nat → (Nat → Int32) → (Nat → Int32) → (Nat → Int32) → (Nat → Int64) → (Nat → Int32) → (Nat → Int64) → Int32 → Int32 → Int32 → Int32 → Int32 → Int32 → Int32 → Int32 → Int32 → Int32 → Int32 → Option (Int32)) (hr288 : ∀ (σ : Mem) (n : Nat) (A0 : Nat → Int32) (A1 : Nat → Int32) (A2 : Nat → Int32) (A3 : Nat → Int64) (A4 : Nat → Int32) (A5 : Nat → Int64) (x4 : Int32) (x7 : Int32) (x8 : Int32) (x9 : Int32) (x10 : Int32) (x11 : Int32) (x12 : Int32) (x15 : Int32) (x16 : Int32) (x17 : Int32) (x18 : Int32), rl288 σ n A0 A1 A2 A3 A4 A5 x4 x7 x8 x9 x10 x11 x12 x15 x16 x17 x18 = some out → JQ Y mL_law (some σ) [] [.inl (24, A0), .inl (36, A1), .inl (6, A2), .inr (3, A3), .inl (6, A4), .inr (3, A5)] n 288 (fun b => [(0, .ref (qb Y)), (1, .ref (xad (qX Y) 0)), (2, .ref (b 0)), (3, .ref (b 1)), (4, .int x4), (5, .ref (b 2)), (6, .ref (b 3)), (7, .int x7), (8, .int x8), (9, .int x9), (10, .int x10), (11, .int x11), (12, .int x12), (13, .ref (b 4)), (14, .ref (b 5)), (15, .int x15), (16, .int x16), (17, .int x17), (18, .int x18)]) (fun _ => [])) (σ : Mem) (n : Nat) (A0 : Nat → Int32) (A1 : Nat → Int32) (A2 : Nat → Int32) (A3 : Nat → Int64) (A4 : Nat → Int32) (A5 : Nat → Int64) (x4 : Int32) (x7 : Int32) (x8 : Int32) (x9 : Int32) (x10 : Int32) (x11 : Int32) (x12 : Int32) (x15 : Int32) (x18 : Int32) (x20 : Int32) (s0 : Int32) (h : FL_law_358 (qL Y) (qs Y) rl191 rl210 rl231 rl288 σ n A0 A1 A2 A3 A4 A5 x4 x7 x8 x9 x10 x11 x12 x15 x18 x20 s0 = some out) : JQ Y mL_law (some σ) [] [.inl (24, A0), .inl (36, A1), .inl (6, A2), .inr (3, A3), .inl (6, A4), .inr (3, A5)] n 358 (fun b => [(0, .ref (qb Y)), (1, .ref (xad (qX Y) 0)), (2, .ref (b 0)), (3, .ref (b 1)), (4, .int x4), (5, .ref (b 2)), (6, .ref (b 3)), (7, .int x7), (8, .int x8), (9, .int x9), (10, .int x10), (11, .int x11), (12, .int x12), (13, .ref (b 4)), (14, .ref (b 5)), (15, .int x15), (18, .int x18), (20, .int x20)]) (fun _ => [.int s0]) := by
  refine q_istoreV (fun b => [(17, .int s0), (0, .ref (qb Y)), (1, .ref (xad (qX Y) 0)), (2, .ref (b 0)), (3, .ref (b 1)), (4, .int x4), (5, .ref (b 2)), (6, .ref (b 3)), (7, .int x7), (8, .int x8), (9, .int x9), (10, .int x10), (11, .int x11), (12, .int x12), (13, .ref (b 4)), (14, .ref (b 5)), (15, .int x15), (18, .int x18), (20, .int x20)]) dL_law_358 rfl (show 17 < 27 by decide) (fun _ => rfl) ?_
  refine q_iload 0 dL_law_360 rfl (fun _ => rfl) ?_
  refine q_if_eq dL_law_362 rfl rfl h (fun c h => ?_) (fun c h => ?_)
  · refine q_iconst dL_law_380 rfl ki_0 ?_
    refine q_istoreV (fun b => [(16, .int (0 : Int32)), (17, .int s0), (0, .ref (qb Y)), (1, .ref (xad (qX Y) 0)), (2, .ref (b 0)), (3, .ref (b 1)), (4, .int x4), (5, .ref (b 2)), (6, .ref (b 3)), (7, .int x7), (8, .int x8), (9, .int x9), (10, .int x10), (11, .int x11), (12, .int x12), (13, .ref (b 4)), (14, .ref (b 5)), (15, .int x15), (18, .int x18), (20, .int x20)]) dL_law_381 rfl (show 16 < 27 by decide) (fun _ => rfl) ?_
    refine q_iinc 18 (fun x_337 => (fun b => [(18, .int x_337), (16, .int (0 : Int32)), (17, .int s0), (0, .ref (qb Y)), (1, .ref (xad (qX Y) 0)), (2, .ref (b 0)), (3, .ref (b 1)), (4, .int x4), (5, .ref (b 2)), (6, .ref (b 3)), (7, .int x7), (8, .int x8), (9, .int x9), (10, .int x10), (11, .int x11), (12, .int x12), (13, .ref (b 4)), (14, .ref (b 5)), (15, .int x15), (20, .int x20)])) dL_law_383 rfl (fun _ => rfl) ki_1 (show 18 < 27 by decide) (fun _ _ => rfl) h (fun x_337 h => ?_)
    refine q_goto dL_law_386 rfl ?_
    refine q_sub [3, 4, 5, 6, 7, 8, 9, 10, 11, 12, 13, 14, 15, 16, 17, 18, 1, 2, 0] (fun b => [(0, .ref (qb Y)), (1, .ref (xad (qX Y) 0)), (2, .ref (b 0)), (3, .ref (b 1)), (4, .int x4), (5, .ref (b 2)), (6, .ref (b 3)), (7, .int x7), (8, .int x8), (9, .int x9), (10, .int x10), (11, .int x11), (12, .int x12), (13, .ref (b 4)), (14, .ref (b 5)), (15, .int x15), (16, .int (0 : Int32)), (17, .int s0), (18, .int x_337)]) (fun _ => rfl) ?_
    exact hr288 σ _ A0 A1 A2 A3 A4 A5 x4 x7 x8 x9 x10 x11 x12 x15 (0 : Int32) s0 x_337 h
  · refine q_iload 18 dL_law_365 rfl (fun _ => rfl) ?_
    refine q_iload 8 dL_law_367 rfl (fun _ => rfl) ?_
    refine q_ishr dL_law_369 rfl ?_
    refine q_iconst dL_law_370 rfl ki_1 ?_
    refine q_iand dL_law_371 rfl ?_
    refine q_iconst dL_law_372 rfl ki_1 ?_
    refine q_icmp_ne dL_law_373 rfl rfl h (fun c h => ?_) (fun c h => ?_)
    · refine q_iconst dL_law_380 rfl ki_0 ?_
      refine q_istoreV (fun b => [(16, .int (0 : Int32)), (17, .int s0), (0, .ref (qb Y)), (1, .ref (xad (qX Y) 0)), (2, .ref (b 0)), (3, .ref (b 1)), (4, .int x4), (5, .ref (b 2)), (6, .ref (b 3)), (7, .int x7), (8, .int x8), (9, .int x9), (10, .int x10), (11, .int x11), (12, .int x12), (13, .ref (b 4)), (14, .ref (b 5)), (15, .int x15), (18, .int x18), (20, .int x20)]) dL_law_381 rfl (show 16 < 27 by decide) (fun _ => rfl) ?_
      refine q_iinc 18 (fun x_338 => (fun b => [(18, .int x_338), (16, .int (0 : Int32)), (17, .int s0), (0, .ref (qb Y)), (1, .ref (xad (qX Y) 0)), (2, .ref (b 0)), (3, .ref (b 1)), (4, .int x4), (5, .ref (b 2)), (6, .ref (b 3)), (7, .int x7), (8, .int x8), (9, .int x9), (10, .int x10), (11, .int x11), (12, .int x12), (13, .ref (b 4)), (14, .ref (b 5)), (15, .int x15), (20, .int x20)])) dL_law_383 rfl (fun _ => rfl) ki_1 (show 18 < 27 by decide) (fun _ _ => rfl) h (fun x_338 h => ?_)
      refine q_goto dL_law_386 rfl ?_
      refine q_sub [3, 4, 5, 6, 7, 8, 9, 10, 11, 12, 13, 14, 15, 16, 17, 18, 1, 2, 0] (fun b => [(0, .ref (qb Y)), (1, .ref (xad (qX Y) 0)), (2, .ref (b 0)), (3, .ref (b 1)), (4, .int x4), (5, .ref (b 2)), (6, .ref (b 3)), (7, .int x7), (8, .int x8), (9, .int x9), (10, .int x10), (11, .int x11), (12, .int x12), (13, .ref (b 4)), (14, .ref (b 5)), (15, .int x15), (16, .int (0 : Int32)), (17, .int s0), (18, .int x_338)]) (fun _ => rfl) ?_
      exact hr288 σ _ A0 A1 A2 A3 A4 A5 x4 x7 x8 x9 x10 x11 x12 x15 (0 : Int32) s0 x_338 h
    · refine q_iconst dL_law_376 rfl ki_1 ?_
      refine q_goto dL_law_377 rfl ?_
      refine q_istoreV (fun b => [(16, .int (1 : Int32)), (17, .int s0), (0, .ref (qb Y)), (1, .ref (xad (qX Y) 0)), (2, .ref (b 0)), (3, .ref (b 1)), (4, .int x4), (5, .ref (b 2)), (6, .ref (b 3)), (7, .int x7), (8, .int x8), (9, .int x9), (10, .int x10), (11, .int x11), (12, .int x12), (13, .ref (b 4)), (14, .ref (b 5)), (15, .int x15), (18, .int x18), (20, .int x20)]) dL_law_381 rfl (show 16 < 27 by decide) (fun _ => rfl) ?_
      refine q_iinc 18 (fun x_339 => (fun b => [(18, .int x_339), (16, .int (1 : Int32)), (17, .int s0), (0, .ref (qb Y)), (1, .ref (xad (qX Y) 0)), (2, .ref (b 0)), (3, .ref (b 1)), (4, .int x4), (5, .ref (b 2)), (6, .ref (b 3)), (7, .int x7), (8, .int x8), (9, .int x9), (10, .int x10), (11, .int x11), (12, .int x12), (13, .ref (b 4)), (14, .ref (b 5)), (15, .int x15), (20, .int x20)])) dL_law_383 rfl (fun _ => rfl) ki_1 (show 18 < 27 by decide) (fun _ _ => rfl) h (fun x_339 h => ?_)
      refine q_goto dL_law_386 rfl ?_
      refine q_sub [3, 4, 5, 6, 7, 8, 9, 10, 11, 12, 13, 14, 15, 16, 17, 18, 1, 2, 0] (fun b => [(0, .ref (qb Y)), (1, .ref (xad (qX Y) 0)), (2, .ref (b 0)), (3, .ref (b 1)), (4, .int x4), (5, .ref (b 2)), (6, .ref (b 3)), (7, .int x7), (8, .int x8), (9, .int x9), (10, .int x10), (11, .int x11), (12, .int x12), (13, .ref (b 4)), (14, .ref (b 5)), (15, .int x15), (16, .int (1 : Int32)), (17, .int s0), (18, .int x_339)]) (fun _ => rfl) ?_
      exact hr288 σ _ A0 A1 A2 A3 A4 A5 x4 x7 x8 x9 x10 x11 x12 x15 (1 : Int32) s0 x_339 h
noncomputable def FL_law_327 (L : Nat) (xs : Nat → Int32) (rl191 : Mem → Nat → (Nat → Int32) → (Nat → Int32) → (Nat → Int32) → (Nat → Int64) → Int32 → Int32 → Option (Int32)) (rl210 : Mem → Nat → (Nat → Int32) → (Nat → Int32) → (Nat → Int32) → (Nat → Int64) → Int32 → Int32 → Int32 → Int32 → Int32 → Int32 → Option (Int32)) (rl231 : Mem → Nat → (Nat → Int32) → (Nat → Int32) → (Nat → Int32) → (Nat → Int64) → Int32 → Int32 → Int32 → Int32 → Int32 → Int32 → Int32 → Option (Int32)) (rl288 : Mem → Nat → (Nat → Int32) → (Nat → Int32) → (Nat → Int32) → (Nat → Int64) → (Nat → Int32) → (Nat → Int64) → Int32 → Int32 → Int32 → Int32 → Int32 → Int32 → Int32 → Int32 → Int32 → Int32 → Int32 → Option (Int32)) (σ : Mem) (n : Nat) (A0 : Nat → Int32) (A1 : Nat → Int32) (A2 : Nat → Int32) (A3 : Nat → Int64) (A4 : Nat → Int32) (A5 : Nat → Int64) (x4 : Int32) (x7 : Int32) (x8 : Int32) (x9 : Int32) (x10 : Int32) (x11 : Int32) (x12 : Int32) (x18 : Int32) (x19 : Int32) (s0 : Int32) : Option (Int32) :=
  dzI (4 : Int32) <|
  dzI (4 : Int32) <|
  bn (FL_push A0 A1 A4 A5 (x19 / (4 : Int32)) (x19 - x19 / (4 : Int32) * (4 : Int32))) fun o340 =>
  if o340.1 < 0 then
  (FL_law_358 L xs rl191 rl210 rl231 rl288 σ n A0 A1 A2 A3 o340.2.1 o340.2.2 x4 x7 x8 x9 x10 x11 x12 s0 x18 o340.1 (0 : Int32))
  else
  (FL_law_358 L xs rl191 rl210 rl231 rl288 σ n A0 A1 A2 A3 o340.2.1 o340.2.2 x4 x7 x8 x9 x10 x11 x12 s0 x18 o340.1 (1 : Int32))
set_option maxHeartbeats 4000000 in
set_option maxRecDepth 100000 in
theorem jL_law_327 {Y : QX} {out : Int32} (hE : ∀ σ2 : Mem, EndQ Y mL_law .ireturn [] (some σ2) [] (fun _ => [.int out])) (rl191 : Mem → Nat → (Nat → Int32) → (Nat → Int32) → (Nat → Int32) → (Nat → Int64) → Int32 → Int32 → Option (Int32)) (hr191 : ∀ (σ : Mem) (n : Nat) (A0 : Nat → Int32) (A1 : Nat → Int32) (A2 : Nat → Int32) (A3 : Nat → Int64) (x4 : Int32) (x7 : Int32), rl191 σ n A0 A1 A2 A3 x4 x7 = some out → JQ Y mL_law (some σ) [] [.inl (24, A0), .inl (36, A1), .inl (6, A2), .inr (3, A3)] n 191 (fun b => [(0, .ref (qb Y)), (1, .ref (xad (qX Y) 0)), (2, .ref (b 0)), (3, .ref (b 1)), (4, .int x4), (5, .ref (b 2)), (6, .ref (b 3)), (7, .int x7)]) (fun _ => [])) (rl210 : Mem → Nat → (Nat → Int32) → (Nat → Int32) → (Nat → Int32) → (Nat → Int64) → Int32 → Int32 → Int32 → Int32 → Int32 → Int32 → Option (Int32)) (hr210 : ∀ (σ : Mem) (n : Nat) (A0 : Nat → Int32) (A1 : Nat → Int32) (A2 : Nat → Int32) (A3 : Nat → Int64) (x4 : Int32) (x7 : Int32) (x8 : Int32) (x9 : Int32) (x10 : Int32) (x11 : Int32), rl210 σ n A0 A1 A2 A3 x4 x7 x8 x9 x10 x11 = some out → JQ Y mL_law (some σ) [] [.inl (24, A0), .inl (36, A1), .inl (6, A2), .inr (3, A3)] n 210 (fun b => [(0, .ref (qb Y)), (1, .ref (xad (qX Y) 0)), (2, .ref (b 0)), (3, .ref (b 1)), (4, .int x4), (5, .ref (b 2)), (6, .ref (b 3)), (7, .int x7), (8, .int x8), (9, .int x9), (10, .int x10), (11, .int x11)]) (fun _ => [])) (rl231 : Mem → Nat → (Nat → Int32) → (Nat → Int32) → (Nat → Int32) → (Nat → Int64) → Int32 → Int32 → Int32 → Int32 → Int32 → Int32 → Int32 → Option (Int32)) (hr231 : ∀ (σ : Mem) (n : Nat) (A0 : Nat → Int32) (A1 : Nat → Int32) (A2 : Nat → Int32) (A3 : Nat → Int64) (x4 : Int32) (x7 : Int32) (x8 : Int32) (x9 : Int32) (x10 : Int32) (x11 : Int32) (x12 : Int32), rl231 σ n A0 A1 A2 A3 x4 x7 x8 x9 x10 x11 x12 = some out → JQ Y mL_law (some σ) [] [.inl (24, A0), .inl (36, A1), .inl (6, A2), .inr (3, A3)] n 231 (fun b => [(0, .ref (qb Y)), (1, .ref (xad (qX Y) 0)), (2, .ref (b 0)), (3, .ref (b 1)), (4, .int x4), (5, .ref (b 2)), (6, .ref (b 3)), (7, .int x7), (8, .int x8), (9, .int x9), (10, .int x10), (11, .int x11), (12, .int x12)]) (fun _ => [])) (rl288 : Mem → Nat → (Nat → Int32) → (Nat → Int32) → (Nat → Int32) → (Nat → Int64) → (Nat → Int32) → (Nat → Int64) → Int32 → Int32 → Int32 → Int32 → Int32 → Int32 → Int32 → Int32 → Int32 → Int32 → Int32 → Option (Int32)) (hr288 : ∀ (σ : Mem) (n : Nat) (A0 : Nat → Int32) (A1 : Nat → Int32) (A2 : Nat → Int32) (A3 : Nat → Int64) (A4 : Nat → Int32) (A5 : Nat → Int64) (x4 : Int32) (x7 : Int32) (x8 : Int32) (x9 : Int32) (x10 : Int32) (x11 : Int32) (x12 : Int32) (x15 : Int32) (x16 : Int32) (x17 : Int32) (x18 : Int32), rl288 σ n A0 A1 A2 A3 A4 A5 x4 x7 x8 x9 x10 x11 x12 x15 x16 x17 x18 = some out → JQ Y mL_law (some σ) [] [.inl (24, A0), .inl (36, A1), .inl (6, A2), .inr (3, A3), .inl (6, A4), .inr (3, A5)] n 288 (fun b => [(0, .ref (qb Y)), (1, .ref (xad (qX Y) 0)), (2, .ref (b 0)), (3, .ref (b 1)), (4, .int x4), (5, .ref (b 2)), (6, .ref (b 3)), (7, .int x7), (8, .int x8), (9, .int x9), (10, .int x10), (11, .int x11), (12, .int x12), (13, .ref (b 4)), (14, .ref (b 5)), (15, .int x15), (16, .int x16), (17, .int x17), (18, .int x18)]) (fun _ => [])) (σ : Mem) (n : Nat) (A0 : Nat → Int32) (A1 : Nat → Int32) (A2 : Nat → Int32) (A3 : Nat → Int64) (A4 : Nat → Int32) (A5 : Nat → Int64) (x4 : Int32) (x7 : Int32) (x8 : Int32) (x9 : Int32) (x10 : Int32) (x11 : Int32) (x12 : Int32) (x18 : Int32) (x19 : Int32) (s0 : Int32) (h : FL_law_327 (qL Y) (qs Y) rl191 rl210 rl231 rl288 σ n A0 A1 A2 A3 A4 A5 x4 x7 x8 x9 x10 x11 x12 x18 x19 s0 = some out) : JQ Y mL_law (some σ) [] [.inl (24, A0), .inl (36, A1), .inl (6, A2), .inr (3, A3), .inl (6, A4), .inr (3, A5)] n 327 (fun b => [(0, .ref (qb Y)), (1, .ref (xad (qX Y) 0)), (2, .ref (b 0)), (3, .ref (b 1)), (4, .int x4), (5, .ref (b 2)), (6, .ref (b 3)), (7, .int x7), (8, .int x8), (9, .int x9), (10, .int x10), (11, .int x11), (12, .int x12), (13, .ref (b 4)), (14, .ref (b 5)), (18, .int x18), (19, .int x19)]) (fun _ => [.int s0]) := by
  refine q_istoreV (fun b => [(15, .int s0), (0, .ref (qb Y)), (1, .ref (xad (qX Y) 0)), (2, .ref (b 0)), (3, .ref (b 1)), (4, .int x4), (5, .ref (b 2)), (6, .ref (b 3)), (7, .int x7), (8, .int x8), (9, .int x9), (10, .int x10), (11, .int x11), (12, .int x12), (13, .ref (b 4)), (14, .ref (b 5)), (18, .int x18), (19, .int x19)]) dL_law_327 rfl (show 15 < 27 by decide) (fun _ => rfl) ?_
  refine q_aload_n 3 (fun b => b 0) dL_law_329 rfl rfl (fun _ => rfl) ?_
  refine q_aload_n 4 (fun b => b 1) dL_law_330 rfl rfl (fun _ => rfl) ?_
  refine q_aload 14 (fun b => b 4) dL_law_331 rfl (fun _ => rfl) ?_
  refine q_aload 15 (fun b => b 5) dL_law_333 rfl (fun _ => rfl) ?_
  refine q_iload 17 dL_law_335 rfl (fun _ => rfl) ?_
  refine q_iconst dL_law_337 rfl ki_4 ?_
  refine q_idiv dL_law_338 rfl h (fun h => ?_)
  refine q_iload 17 dL_law_339 rfl (fun _ => rfl) ?_
  refine q_iconst dL_law_341 rfl ki_4 ?_
  refine q_irem dL_law_342 rfl h (fun h => ?_)
  refine q_pick [2, 3, 0, 1, 4, 5] [.inl (6, A2), .inr (3, A3), .inl (24, A0), .inl (36, A1), .inl (6, A4), .inr (3, A5)] [] (fun b => [(15, .int s0), (0, .ref (qb Y)), (1, .ref (xad (qX Y) 0)), (2, .ref (b 2)), (3, .ref (b 3)), (4, .int x4), (5, .ref (b 0)), (6, .ref (b 1)), (7, .int x7), (8, .int x8), (9, .int x9), (10, .int x10), (11, .int x11), (12, .int x12), (13, .ref (b 4)), (14, .ref (b 5)), (18, .int x18), (19, .int x19)]) (fun b => [.int (x19 - x19 / (4 : Int32) * (4 : Int32)), .int (x19 / (4 : Int32)), .ref (b 5), .ref (b 4), .ref (b 3), .ref (b 2)]) rfl rfl (by decide) rfl (fun _ => rfl) (fun _ => rfl) ?_
  obtain ⟨o340, hc, h⟩ := bn_of h
  refine q_call [.inl (6, A2), .inr (3, A3)] 2 (fun b => [.ref (b 2), .ref (b 3), .ref (b 4), .ref (b 5), .int (x19 / (4 : Int32)), .int (x19 - x19 / (4 : Int32) * (4 : Int32))]) (fun _ => []) (coL_push A0 A1 A4 A5 (x19 / (4 : Int32)) (x19 - x19 / (4 : Int32) * (4 : Int32)) o340 hc) rfl rfl rfl ms_RL_47 (by decide) (Or.inl rfl) (fun _ => rfl) (fun _ => rfl) (fun _ => rfl) (fun _ => Nat.le_of_ble_eq_true rfl) dL_law_343 rfl ?_
  show JQ Y mL_law (some σ) [] [.inl (6, A2), .inr (3, A3), .inl (24, A0), .inl (36, A1), .inl (6, o340.2.1), .inr (3, o340.2.2)] _ 346 (fun b => [(15, .int s0), (0, .ref (qb Y)), (1, .ref (xad (qX Y) 0)), (2, .ref (b 2)), (3, .ref (b 3)), (4, .int x4), (5, .ref (b 0)), (6, .ref (b 1)), (7, .int x7), (8, .int x8), (9, .int x9), (10, .int x10), (11, .int x11), (12, .int x12), (13, .ref (b 4)), (14, .ref (b 5)), (18, .int x18), (19, .int x19)]) (fun _ => [.int o340.1])
  refine q_istoreV (fun b => [(20, .int o340.1), (15, .int s0), (0, .ref (qb Y)), (1, .ref (xad (qX Y) 0)), (2, .ref (b 2)), (3, .ref (b 3)), (4, .int x4), (5, .ref (b 0)), (6, .ref (b 1)), (7, .int x7), (8, .int x8), (9, .int x9), (10, .int x10), (11, .int x11), (12, .int x12), (13, .ref (b 4)), (14, .ref (b 5)), (18, .int x18), (19, .int x19)]) dL_law_346 rfl (show 20 < 27 by decide) (fun _ => rfl) ?_
  refine q_iload 0 dL_law_348 rfl (fun _ => rfl) ?_
  refine q_if_lt dL_law_350 rfl rfl h (fun c h => ?_) (fun c h => ?_)
  · refine q_iconst dL_law_357 rfl ki_0 ?_
    refine q_sub [2, 3, 4, 5, 6, 7, 8, 9, 10, 11, 12, 13, 14, 15, 16, 1, 17, 0] (fun b => [(0, .ref (qb Y)), (1, .ref (xad (qX Y) 0)), (2, .ref (b 2)), (3, .ref (b 3)), (4, .int x4), (5, .ref (b 0)), (6, .ref (b 1)), (7, .int x7), (8, .int x8), (9, .int x9), (10, .int x10), (11, .int x11), (12, .int x12), (13, .ref (b 4)), (14, .ref (b 5)), (15, .int s0), (18, .int x18), (20, .int o340.1)]) (fun _ => rfl) ?_
    refine q_pick [2, 3, 0, 1, 4, 5] [.inl (24, A0), .inl (36, A1), .inl (6, A2), .inr (3, A3), .inl (6, o340.2.1), .inr (3, o340.2.2)] [] (fun b => [(0, .ref (qb Y)), (1, .ref (xad (qX Y) 0)), (2, .ref (b 0)), (3, .ref (b 1)), (4, .int x4), (5, .ref (b 2)), (6, .ref (b 3)), (7, .int x7), (8, .int x8), (9, .int x9), (10, .int x10), (11, .int x11), (12, .int x12), (13, .ref (b 4)), (14, .ref (b 5)), (15, .int s0), (18, .int x18), (20, .int o340.1)]) (fun _ => [.int (0 : Int32)]) rfl rfl (by decide) rfl (fun _ => rfl) (fun _ => rfl) ?_
    exact jL_law_358 hE rl191 hr191 rl210 hr210 rl231 hr231 rl288 hr288 σ _ A0 A1 A2 A3 o340.2.1 o340.2.2 x4 x7 x8 x9 x10 x11 x12 s0 x18 o340.1 (0 : Int32) h
  · refine q_iconst dL_law_353 rfl ki_1 ?_
    refine q_goto dL_law_354 rfl ?_
    refine q_sub [2, 3, 4, 5, 6, 7, 8, 9, 10, 11, 12, 13, 14, 15, 16, 1, 17, 0] (fun b => [(0, .ref (qb Y)), (1, .ref (xad (qX Y) 0)), (2, .ref (b 2)), (3, .ref (b 3)), (4, .int x4), (5, .ref (b 0)), (6, .ref (b 1)), (7, .int x7), (8, .int x8), (9, .int x9), (10, .int x10), (11, .int x11), (12, .int x12), (13, .ref (b 4)), (14, .ref (b 5)), (15, .int s0), (18, .int x18), (20, .int o340.1)]) (fun _ => rfl) ?_
    refine q_pick [2, 3, 0, 1, 4, 5] [.inl (24, A0), .inl (36, A1), .inl (6, A2), .inr (3, A3), .inl (6, o340.2.1), .inr (3, o340.2.2)] [] (fun b => [(0, .ref (qb Y)), (1, .ref (xad (qX Y) 0)), (2, .ref (b 0)), (3, .ref (b 1)), (4, .int x4), (5, .ref (b 2)), (6, .ref (b 3)), (7, .int x7), (8, .int x8), (9, .int x9), (10, .int x10), (11, .int x11), (12, .int x12), (13, .ref (b 4)), (14, .ref (b 5)), (15, .int s0), (18, .int x18), (20, .int o340.1)]) (fun _ => [.int (1 : Int32)]) rfl rfl (by decide) rfl (fun _ => rfl) (fun _ => rfl) ?_
    exact jL_law_358 hE rl191 hr191 rl210 hr210 rl231 hr231 rl288 hr288 σ _ A0 A1 A2 A3 o340.2.1 o340.2.2 x4 x7 x8 x9 x10 x11 x12 s0 x18 o340.1 (1 : Int32) h
noncomputable def BL_law_288 (L : Nat) (xs : Nat → Int32) (rl191 : Mem → Nat → (Nat → Int32) → (Nat → Int32) → (Nat → Int32) → (Nat → Int64) → Int32 → Int32 → Option (Int32)) (rl210 : Mem → Nat → (Nat → Int32) → (Nat → Int32) → (Nat → Int32) → (Nat → Int64) → Int32 → Int32 → Int32 → Int32 → Int32 → Int32 → Option (Int32)) (rl231 : Mem → Nat → (Nat → Int32) → (Nat → Int32) → (Nat → Int32) → (Nat → Int64) → Int32 → Int32 → Int32 → Int32 → Int32 → Int32 → Int32 → Option (Int32)) (rl288 : Mem → Nat → (Nat → Int32) → (Nat → Int32) → (Nat → Int32) → (Nat → Int64) → (Nat → Int32) → (Nat → Int64) → Int32 → Int32 → Int32 → Int32 → Int32 → Int32 → Int32 → Int32 → Int32 → Int32 → Int32 → Option (Int32)) (σ : Mem) (n : Nat) (A0 : Nat → Int32) (A1 : Nat → Int32) (A2 : Nat → Int32) (A3 : Nat → Int64) (A4 : Nat → Int32) (A5 : Nat → Int64) (x4 : Int32) (x7 : Int32) (x8 : Int32) (x9 : Int32) (x10 : Int32) (x11 : Int32) (x12 : Int32) (x15 : Int32) (x16 : Int32) (x17 : Int32) (x18 : Int32) : Option (Int32) :=
  if x11 ≤ x18 then
  (FL_law_389 L xs rl191 rl210 rl231 σ n A0 A1 A2 A3 x4 x7 x8 x9 x10 x11 x12 x16 x17)
  else
  (if x17 = 0 then
  (FL_law_389 L xs rl191 rl210 rl231 σ n A0 A1 A2 A3 x4 x7 x8 x9 x10 x11 x12 x16 x17)
  else
  (dzI x15 <|
  dzI x4 <|
  nm ((x12 / x15) - (x12 / x15) / x4 * x4) fun x_341 =>
  dzI x4 <|
  if (x15 / x4) ≤ 0 then
  (FL_law_327 L xs rl191 rl210 rl231 rl288 σ n A0 A1 A2 A3 A4 A5 x4 x7 x8 x9 x10 x11 x12 x18 x_341 (1 : Int32))
  else
  (dzI x4 <|
  FL_law_327 L xs rl191 rl210 rl231 rl288 σ n A0 A1 A2 A3 A4 A5 x4 x7 x8 x9 x10 x11 x12 x18 x_341 (x15 / x4))))
set_option maxHeartbeats 4000000 in
set_option maxRecDepth 100000 in
theorem jL_law_288 {Y : QX} {out : Int32} (hE : ∀ σ2 : Mem, EndQ Y mL_law .ireturn [] (some σ2) [] (fun _ => [.int out])) (rl191 : Mem → Nat → (Nat → Int32) → (Nat → Int32) → (Nat → Int32) → (Nat → Int64) → Int32 → Int32 → Option (Int32)) (hr191 : ∀ (σ : Mem) (n : Nat) (A0 : Nat → Int32) (A1 : Nat → Int32) (A2 : Nat → Int32) (A3 : Nat → Int64) (x4 : Int32) (x7 : Int32), rl191 σ n A0 A1 A2 A3 x4 x7 = some out → JQ Y mL_law (some σ) [] [.inl (24, A0), .inl (36, A1), .inl (6, A2), .inr (3, A3)] n 191 (fun b => [(0, .ref (qb Y)), (1, .ref (xad (qX Y) 0)), (2, .ref (b 0)), (3, .ref (b 1)), (4, .int x4), (5, .ref (b 2)), (6, .ref (b 3)), (7, .int x7)]) (fun _ => [])) (rl210 : Mem → Nat → (Nat → Int32) → (Nat → Int32) → (Nat → Int32) → (Nat → Int64) → Int32 → Int32 → Int32 → Int32 → Int32 → Int32 → Option (Int32)) (hr210 : ∀ (σ : Mem) (n : Nat) (A0 : Nat → Int32) (A1 : Nat → Int32) (A2 : Nat → Int32) (A3 : Nat → Int64) (x4 : Int32) (x7 : Int32) (x8 : Int32) (x9 : Int32) (x10 : Int32) (x11 : Int32), rl210 σ n A0 A1 A2 A3 x4 x7 x8 x9 x10 x11 = some out → JQ Y mL_law (some σ) [] [.inl (24, A0), .inl (36, A1), .inl (6, A2), .inr (3, A3)] n 210 (fun b => [(0, .ref (qb Y)), (1, .ref (xad (qX Y) 0)), (2, .ref (b 0)), (3, .ref (b 1)), (4, .int x4), (5, .ref (b 2)), (6, .ref (b 3)), (7, .int x7), (8, .int x8), (9, .int x9), (10, .int x10), (11, .int x11)]) (fun _ => [])) (rl231 : Mem → Nat → (Nat → Int32) → (Nat → Int32) → (Nat → Int32) → (Nat → Int64) → Int32 → Int32 → Int32 → Int32 → Int32 → Int32 → Int32 → Option (Int32)) (hr231 : ∀ (σ : Mem) (n : Nat) (A0 : Nat → Int32) (A1 : Nat → Int32) (A2 : Nat → Int32) (A3 : Nat → Int64) (x4 : Int32) (x7 : Int32) (x8 : Int32) (x9 : Int32) (x10 : Int32) (x11 : Int32) (x12 : Int32), rl231 σ n A0 A1 A2 A3 x4 x7 x8 x9 x10 x11 x12 = some out → JQ Y mL_law (some σ) [] [.inl (24, A0), .inl (36, A1), .inl (6, A2), .inr (3, A3)] n 231 (fun b => [(0, .ref (qb Y)), (1, .ref (xad (qX Y) 0)), (2, .ref (b 0)), (3, .ref (b 1)), (4, .int x4), (5, .ref (b 2)), (6, .ref (b 3)), (7, .int x7), (8, .int x8), (9, .int x9), (10, .int x10), (11, .int x11), (12, .int x12)]) (fun _ => [])) (rl288 : Mem → Nat → (Nat → Int32) → (Nat → Int32) → (Nat → Int32) → (Nat → Int64) → (Nat → Int32) → (Nat → Int64) → Int32 → Int32 → Int32 → Int32 → Int32 → Int32 → Int32 → Int32 → Int32 → Int32 → Int32 → Option (Int32)) (hr288 : ∀ (σ : Mem) (n : Nat) (A0 : Nat → Int32) (A1 : Nat → Int32) (A2 : Nat → Int32) (A3 : Nat → Int64) (A4 : Nat → Int32) (A5 : Nat → Int64) (x4 : Int32) (x7 : Int32) (x8 : Int32) (x9 : Int32) (x10 : Int32) (x11 : Int32) (x12 : Int32) (x15 : Int32) (x16 : Int32) (x17 : Int32) (x18 : Int32), rl288 σ n A0 A1 A2 A3 A4 A5 x4 x7 x8 x9 x10 x11 x12 x15 x16 x17 x18 = some out → JQ Y mL_law (some σ) [] [.inl (24, A0), .inl (36, A1), .inl (6, A2), .inr (3, A3), .inl (6, A4), .inr (3, A5)] n 288 (fun b => [(0, .ref (qb Y)), (1, .ref (xad (qX Y) 0)), (2, .ref (b 0)), (3, .ref (b 1)), (4, .int x4), (5, .ref (b 2)), (6, .ref (b 3)), (7, .int x7), (8, .int x8), (9, .int x9), (10, .int x10), (11, .int x11), (12, .int x12), (13, .ref (b 4)), (14, .ref (b 5)), (15, .int x15), (16, .int x16), (17, .int x17), (18, .int x18)]) (fun _ => [])) (σ : Mem) (n : Nat) (A0 : Nat → Int32) (A1 : Nat → Int32) (A2 : Nat → Int32) (A3 : Nat → Int64) (A4 : Nat → Int32) (A5 : Nat → Int64) (x4 : Int32) (x7 : Int32) (x8 : Int32) (x9 : Int32) (x10 : Int32) (x11 : Int32) (x12 : Int32) (x15 : Int32) (x16 : Int32) (x17 : Int32) (x18 : Int32) (h : BL_law_288 (qL Y) (qs Y) rl191 rl210 rl231 rl288 σ n A0 A1 A2 A3 A4 A5 x4 x7 x8 x9 x10 x11 x12 x15 x16 x17 x18 = some out) : JQ Y mL_law (some σ) [] [.inl (24, A0), .inl (36, A1), .inl (6, A2), .inr (3, A3), .inl (6, A4), .inr (3, A5)] n 288 (fun b => [(0, .ref (qb Y)), (1, .ref (xad (qX Y) 0)), (2, .ref (b 0)), (3, .ref (b 1)), (4, .int x4), (5, .ref (b 2)), (6, .ref (b 3)), (7, .int x7), (8, .int x8), (9, .int x9), (10, .int x10), (11, .int x11), (12, .int x12), (13, .ref (b 4)), (14, .ref (b 5)), (15, .int x15), (16, .int x16), (17, .int x17), (18, .int x18)]) (fun _ => []) := by
  refine q_iload 18 dL_law_288 rfl (fun _ => rfl) ?_
  refine q_iload 11 dL_law_290 rfl (fun _ => rfl) ?_
  refine q_icmp_ge dL_law_292 rfl rfl h (fun c h => ?_) (fun c h => ?_)
  · refine q_sub [0, 1, 2, 3, 4, 5, 6, 7, 8, 9, 10, 11, 12, 16, 17] (fun b => [(0, .ref (qb Y)), (1, .ref (xad (qX Y) 0)), (2, .ref (b 0)), (3, .ref (b 1)), (4, .int x4), (5, .ref (b 2)), (6, .ref (b 3)), (7, .int x7), (8, .int x8), (9, .int x9), (10, .int x10), (11, .int x11), (12, .int x12), (16, .int x16), (17, .int x17)]) (fun _ => rfl) ?_
    refine q_pick [0, 1, 2, 3] [.inl (24, A0), .inl (36, A1), .inl (6, A2), .inr (3, A3)] [] (fun b => [(0, .ref (qb Y)), (1, .ref (xad (qX Y) 0)), (2, .ref (b 0)), (3, .ref (b 1)), (4, .int x4), (5, .ref (b 2)), (6, .ref (b 3)), (7, .int x7), (8, .int x8), (9, .int x9), (10, .int x10), (11, .int x11), (12, .int x12), (16, .int x16), (17, .int x17)]) (fun _ => []) rfl rfl (by decide) rfl (fun _ => rfl) (fun _ => rfl) ?_
    exact jL_law_389 hE rl191 hr191 rl210 hr210 rl231 hr231 σ _ A0 A1 A2 A3 x4 x7 x8 x9 x10 x11 x12 x16 x17 h
  · refine q_iload 17 dL_law_295 rfl (fun _ => rfl) ?_
    refine q_if_eq dL_law_297 rfl rfl h (fun c h => ?_) (fun c h => ?_)
    · refine q_sub [0, 1, 2, 3, 4, 5, 6, 7, 8, 9, 10, 11, 12, 16, 17] (fun b => [(0, .ref (qb Y)), (1, .ref (xad (qX Y) 0)), (2, .ref (b 0)), (3, .ref (b 1)), (4, .int x4), (5, .ref (b 2)), (6, .ref (b 3)), (7, .int x7), (8, .int x8), (9, .int x9), (10, .int x10), (11, .int x11), (12, .int x12), (16, .int x16), (17, .int x17)]) (fun _ => rfl) ?_
      refine q_pick [0, 1, 2, 3] [.inl (24, A0), .inl (36, A1), .inl (6, A2), .inr (3, A3)] [] (fun b => [(0, .ref (qb Y)), (1, .ref (xad (qX Y) 0)), (2, .ref (b 0)), (3, .ref (b 1)), (4, .int x4), (5, .ref (b 2)), (6, .ref (b 3)), (7, .int x7), (8, .int x8), (9, .int x9), (10, .int x10), (11, .int x11), (12, .int x12), (16, .int x16), (17, .int x17)]) (fun _ => []) rfl rfl (by decide) rfl (fun _ => rfl) (fun _ => rfl) ?_
      exact jL_law_389 hE rl191 hr191 rl210 hr210 rl231 hr231 σ _ A0 A1 A2 A3 x4 x7 x8 x9 x10 x11 x12 x16 x17 h
    · refine q_iload 12 dL_law_300 rfl (fun _ => rfl) ?_
      refine q_iload 15 dL_law_302 rfl (fun _ => rfl) ?_
      refine q_idiv dL_law_304 rfl h (fun h => ?_)
      refine q_iload 4 dL_law_305 rfl (fun _ => rfl) ?_
      refine q_irem dL_law_307 rfl h (fun h => ?_)
      refine q_istore (fun x_341 => (fun b => [(19, .int x_341), (0, .ref (qb Y)), (1, .ref (xad (qX Y) 0)), (2, .ref (b 0)), (3, .ref (b 1)), (4, .int x4), (5, .ref (b 2)), (6, .ref (b 3)), (7, .int x7), (8, .int x8), (9, .int x9), (10, .int x10), (11, .int x11), (12, .int x12), (13, .ref (b 4)), (14, .ref (b 5)), (15, .int x15), (16, .int x16), (17, .int x17), (18, .int x18)])) dL_law_308 rfl (show 19 < 27 by decide) (fun _ _ => rfl) h (fun x_341 h => ?_)
      refine q_iload 16 dL_law_310 rfl (fun _ => rfl) ?_
      refine q_iload 5 dL_law_312 rfl (fun _ => rfl) ?_
      refine q_idiv dL_law_314 rfl h (fun h => ?_)
      refine q_if_le dL_law_315 rfl rfl h (fun c h => ?_) (fun c h => ?_)
      · refine q_iconst dL_law_326 rfl ki_1 ?_
        refine q_sub [1, 2, 3, 4, 5, 6, 7, 8, 9, 10, 11, 12, 13, 14, 15, 19, 0] (fun b => [(0, .ref (qb Y)), (1, .ref (xad (qX Y) 0)), (2, .ref (b 0)), (3, .ref (b 1)), (4, .int x4), (5, .ref (b 2)), (6, .ref (b 3)), (7, .int x7), (8, .int x8), (9, .int x9), (10, .int x10), (11, .int x11), (12, .int x12), (13, .ref (b 4)), (14, .ref (b 5)), (18, .int x18), (19, .int x_341)]) (fun _ => rfl) ?_
        exact jL_law_327 hE rl191 hr191 rl210 hr210 rl231 hr231 rl288 hr288 σ _ A0 A1 A2 A3 A4 A5 x4 x7 x8 x9 x10 x11 x12 x18 x_341 (1 : Int32) h
      · refine q_iload 16 dL_law_318 rfl (fun _ => rfl) ?_
        refine q_iload 5 dL_law_320 rfl (fun _ => rfl) ?_
        refine q_idiv dL_law_322 rfl h (fun h => ?_)
        refine q_goto dL_law_323 rfl ?_
        refine q_sub [1, 2, 3, 4, 5, 6, 7, 8, 9, 10, 11, 12, 13, 14, 15, 19, 0] (fun b => [(0, .ref (qb Y)), (1, .ref (xad (qX Y) 0)), (2, .ref (b 0)), (3, .ref (b 1)), (4, .int x4), (5, .ref (b 2)), (6, .ref (b 3)), (7, .int x7), (8, .int x8), (9, .int x9), (10, .int x10), (11, .int x11), (12, .int x12), (13, .ref (b 4)), (14, .ref (b 5)), (18, .int x18), (19, .int x_341)]) (fun _ => rfl) ?_
        exact jL_law_327 hE rl191 hr191 rl210 hr210 rl231 hr231 rl288 hr288 σ _ A0 A1 A2 A3 A4 A5 x4 x7 x8 x9 x10 x11 x12 x18 x_341 (x15 / x4) h
noncomputable def FL_law_288 (L : Nat) (xs : Nat → Int32) (rl191 : Mem → Nat → (Nat → Int32) → (Nat → Int32) → (Nat → Int32) → (Nat → Int64) → Int32 → Int32 → Option (Int32)) (rl210 : Mem → Nat → (Nat → Int32) → (Nat → Int32) → (Nat → Int32) → (Nat → Int64) → Int32 → Int32 → Int32 → Int32 → Int32 → Int32 → Option (Int32)) (rl231 : Mem → Nat → (Nat → Int32) → (Nat → Int32) → (Nat → Int32) → (Nat → Int64) → Int32 → Int32 → Int32 → Int32 → Int32 → Int32 → Int32 → Option (Int32)) (fu : Nat) : Mem → Nat → (Nat → Int32) → (Nat → Int32) → (Nat → Int32) → (Nat → Int64) → (Nat → Int32) → (Nat → Int64) → Int32 → Int32 → Int32 → Int32 → Int32 → Int32 → Int32 → Int32 → Int32 → Int32 → Int32 → Option (Int32) :=
  Nat.rec (fun _ _ _ _ _ _ _ _ _ _ _ _ _ _ _ _ _ _ _ => none) (fun _ ih => BL_law_288 L xs rl191 rl210 rl231 ih) fu
theorem lL_law_288 {Y : QX} {out : Int32} (hE : ∀ σ2 : Mem, EndQ Y mL_law .ireturn [] (some σ2) [] (fun _ => [.int out])) (rl191 : Mem → Nat → (Nat → Int32) → (Nat → Int32) → (Nat → Int32) → (Nat → Int64) → Int32 → Int32 → Option (Int32)) (hr191 : ∀ (σ : Mem) (n : Nat) (A0 : Nat → Int32) (A1 : Nat → Int32) (A2 : Nat → Int32) (A3 : Nat → Int64) (x4 : Int32) (x7 : Int32), rl191 σ n A0 A1 A2 A3 x4 x7 = some out → JQ Y mL_law (some σ) [] [.inl (24, A0), .inl (36, A1), .inl (6, A2), .inr (3, A3)] n 191 (fun b => [(0, .ref (qb Y)), (1, .ref (xad (qX Y) 0)), (2, .ref (b 0)), (3, .ref (b 1)), (4, .int x4), (5, .ref (b 2)), (6, .ref (b 3)), (7, .int x7)]) (fun _ => [])) (rl210 : Mem → Nat → (Nat → Int32) → (Nat → Int32) → (Nat → Int32) → (Nat → Int64) → Int32 → Int32 → Int32 → Int32 → Int32 → Int32 → Option (Int32)) (hr210 : ∀ (σ : Mem) (n : Nat) (A0 : Nat → Int32) (A1 : Nat → Int32) (A2 : Nat → Int32) (A3 : Nat → Int64) (x4 : Int32) (x7 : Int32) (x8 : Int32) (x9 : Int32) (x10 : Int32) (x11 : Int32), rl210 σ n A0 A1 A2 A3 x4 x7 x8 x9 x10 x11 = some out → JQ Y mL_law (some σ) [] [.inl (24, A0), .inl (36, A1), .inl (6, A2), .inr (3, A3)] n 210 (fun b => [(0, .ref (qb Y)), (1, .ref (xad (qX Y) 0)), (2, .ref (b 0)), (3, .ref (b 1)), (4, .int x4), (5, .ref (b 2)), (6, .ref (b 3)), (7, .int x7), (8, .int x8), (9, .int x9), (10, .int x10), (11, .int x11)]) (fun _ => [])) (rl231 : Mem → Nat → (Nat → Int32) → (Nat → Int32) → (Nat → Int32) → (Nat → Int64) → Int32 → Int32 → Int32 → Int32 → Int32 → Int32 → Int32 → Option (Int32)) (hr231 : ∀ (σ : Mem) (n : Nat) (A0 : Nat → Int32) (A1 : Nat → Int32) (A2 : Nat → Int32) (A3 : Nat → Int64) (x4 : Int32) (x7 : Int32) (x8 : Int32) (x9 : Int32) (x10 : Int32) (x11 : Int32) (x12 : Int32), rl231 σ n A0 A1 A2 A3 x4 x7 x8 x9 x10 x11 x12 = some out → JQ Y mL_law (some σ) [] [.inl (24, A0), .inl (36, A1), .inl (6, A2), .inr (3, A3)] n 231 (fun b => [(0, .ref (qb Y)), (1, .ref (xad (qX Y) 0)), (2, .ref (b 0)), (3, .ref (b 1)), (4, .int x4), (5, .ref (b 2)), (6, .ref (b 3)), (7, .int x7), (8, .int x8), (9, .int x9), (10, .int x10), (11, .int x11), (12, .int x12)]) (fun _ => [])) : ∀ (fu : Nat) (σ : Mem) (n : Nat) (A0 : Nat → Int32) (A1 : Nat → Int32) (A2 : Nat → Int32) (A3 : Nat → Int64) (A4 : Nat → Int32) (A5 : Nat → Int64) (x4 : Int32) (x7 : Int32) (x8 : Int32) (x9 : Int32) (x10 : Int32) (x11 : Int32) (x12 : Int32) (x15 : Int32) (x16 : Int32) (x17 : Int32) (x18 : Int32), FL_law_288 (qL Y) (qs Y) rl191 rl210 rl231 fu σ n A0 A1 A2 A3 A4 A5 x4 x7 x8 x9 x10 x11 x12 x15 x16 x17 x18 = some out → JQ Y mL_law (some σ) [] [.inl (24, A0), .inl (36, A1), .inl (6, A2), .inr (3, A3), .inl (6, A4), .inr (3, A5)] n 288 (fun b => [(0, .ref (qb Y)), (1, .ref (xad (qX Y) 0)), (2, .ref (b 0)), (3, .ref (b 1)), (4, .int x4), (5, .ref (b 2)), (6, .ref (b 3)), (7, .int x7), (8, .int x8), (9, .int x9), (10, .int x10), (11, .int x11), (12, .int x12), (13, .ref (b 4)), (14, .ref (b 5)), (15, .int x15), (16, .int x16), (17, .int x17), (18, .int x18)]) (fun _ => []) := by
  intro fu
  induction fu with
  | zero => intro σ n A0 A1 A2 A3 A4 A5 x4 x7 x8 x9 x10 x11 x12 x15 x16 x17 x18 h; exact nn h
  | succ fu ih => intro σ n A0 A1 A2 A3 A4 A5 x4 x7 x8 x9 x10 x11 x12 x15 x16 x17 x18 h; exact jL_law_288 hE rl191 hr191 rl210 hr210 rl231 hr231 (FL_law_288 (qL Y) (qs Y) rl191 rl210 rl231 fu) ih σ n A0 A1 A2 A3 A4 A5 x4 x7 x8 x9 x10 x11 x12 x15 x16 x17 x18 h

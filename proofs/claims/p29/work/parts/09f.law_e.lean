noncomputable def FL_law_276 (L : Nat) (xs : Nat → Int32) (rl191 : Mem → Nat → (Nat → Int32) → (Nat → Int32) → (Nat → Int32) → (Nat → Int64) → Int32 → Int32 → Option (Int32)) (rl210 : Mem → Nat → (Nat → Int32) → (Nat → Int32) → (Nat → Int32) → (Nat → Int64) → Int32 → Int32 → Int32 → Int32 → Int32 → Int32 → Option (Int32)) (rl231 : Mem → Nat → (Nat → Int32) → (Nat → Int32) → (Nat → Int32) → (Nat → Int64) → Int32 → Int32 → Int32 → Int32 → Int32 → Int32 → Int32 → Option (Int32)) (σ : Mem) (n : Nat) (A0 : Nat → Int32) (A1 : Nat → Int32) (A2 : Nat → Int32) (A3 : Nat → Int64) (A4 : Nat → Int32) (A5 : Nat → Int64) (x4 : Int32) (x7 : Int32) (x8 : Int32) (x9 : Int32) (x10 : Int32) (x11 : Int32) (x12 : Int32) (s0 : Int32) (s1 : Int32) : Option (Int32) :=
  dzI s0 <|
  nm (s1 / s0) fun x_342 =>
  FL_law_288 L xs rl191 rl210 rl231 FU σ n A0 A1 A2 A3 A4 A5 x4 x7 x8 x9 x10 x11 x12 x_342 (0 : Int32) (1 : Int32) (0 : Int32)
set_option maxHeartbeats 4000000 in
set_option maxRecDepth 100000 in
theorem jL_law_276 {Y : QX} {out : Int32} (hE : ∀ σ2 : Mem, EndQ Y mL_law .ireturn [] (some σ2) [] (fun _ => [.int out])) (rl191 : Mem → Nat → (Nat → Int32) → (Nat → Int32) → (Nat → Int32) → (Nat → Int64) → Int32 → Int32 → Option (Int32)) (hr191 : ∀ (σ : Mem) (n : Nat) (A0 : Nat → Int32) (A1 : Nat → Int32) (A2 : Nat → Int32) (A3 : Nat → Int64) (x4 : Int32) (x7 : Int32), rl191 σ n A0 A1 A2 A3 x4 x7 = some out → JQ Y mL_law (some σ) [] [.inl (24, A0), .inl (36, A1), .inl (6, A2), .inr (3, A3)] n 191 (fun b => [(0, .ref (qb Y)), (1, .ref (xad (qX Y) 0)), (2, .ref (b 0)), (3, .ref (b 1)), (4, .int x4), (5, .ref (b 2)), (6, .ref (b 3)), (7, .int x7)]) (fun _ => [])) (rl210 : Mem → Nat → (Nat → Int32) → (Nat → Int32) → (Nat → Int32) → (Nat → Int64) → Int32 → Int32 → Int32 → Int32 → Int32 → Int32 → Option (Int32)) (hr210 : ∀ (σ : Mem) (n : Nat) (A0 : Nat → Int32) (A1 : Nat → Int32) (A2 : Nat → Int32) (A3 : Nat → Int64) (x4 : Int32) (x7 : Int32) (x8 : Int32) (x9 : Int32) (x10 : Int32) (x11 : Int32), rl210 σ n A0 A1 A2 A3 x4 x7 x8 x9 x10 x11 = some out → JQ Y mL_law (some σ) [] [.inl (24, A0), .inl (36, A1), .inl (6, A2), .inr (3, A3)] n 210 (fun b => [(0, .ref (qb Y)), (1, .ref (xad (qX Y) 0)), (2, .ref (b 0)), (3, .ref (b 1)), (4, .int x4), (5, .ref (b 2)), (6, .ref (b 3)), (7, .int x7), (8, .int x8), (9, .int x9), (10, .int x10), (11, .int x11)]) (fun _ => [])) (rl231 : Mem → Nat → (Nat → Int32) → (Nat → Int32) → (Nat → Int32) → (Nat → Int64) → Int32 → Int32 → Int32 → Int32 → Int32 → Int32 → Int32 → Option (Int32)) (hr231 : ∀ (σ : Mem) (n : Nat) (A0 : Nat → Int32) (A1 : Nat → Int32) (A2 : Nat → Int32) (A3 : Nat → Int64) (x4 : Int32) (x7 : Int32) (x8 : Int32) (x9 : Int32) (x10 : Int32) (x11 : Int32) (x12 : Int32), rl231 σ n A0 A1 A2 A3 x4 x7 x8 x9 x10 x11 x12 = some out → JQ Y mL_law (some σ) [] [.inl (24, A0), .inl (36, A1), .inl (6, A2), .inr (3, A3)] n 231 (fun b => [(0, .ref (qb Y)), (1, .ref (xad (qX Y) 0)), (2, .ref (b 0)), (3, .ref (b 1)), (4, .int x4), (5, .ref (b 2)), (6, .ref (b 3)), (7, .int x7), (8, .int x8), (9, .int x9), (10, .int x10), (11, .int x11), (12, .int x12)]) (fun _ => [])) (σ : Mem) (n : Nat) (A0 : Nat → Int32) (A1 : Nat → Int32) (A2 : Nat → Int32) (A3 : Nat → Int64) (A4 : Nat → Int32) (A5 : Nat → Int64) (x4 : Int32) (x7 : Int32) (x8 : Int32) (x9 : Int32) (x10 : Int32) (x11 : Int32) (x12 : Int32) (s0 : Int32) (s1 : Int32) (h : FL_law_276 (qL Y) (qs Y) rl191 rl210 rl231 σ n A0 A1 A2 A3 A4 A5 x4 x7 x8 x9 x10 x11 x12 s0 s1 = some out) : JQ Y mL_law (some σ) [] [.inl (24, A0), .inl (36, A1), .inl (6, A2), .inr (3, A3), .inl (6, A4), .inr (3, A5)] n 276 (fun b => [(0, .ref (qb Y)), (1, .ref (xad (qX Y) 0)), (2, .ref (b 0)), (3, .ref (b 1)), (4, .int x4), (5, .ref (b 2)), (6, .ref (b 3)), (7, .int x7), (8, .int x8), (9, .int x9), (10, .int x10), (11, .int x11), (12, .int x12), (13, .ref (b 4)), (14, .ref (b 5))]) (fun _ => [.int s0, .int s1]) := by
  refine q_idiv dL_law_276 rfl h (fun h => ?_)
  refine q_istore (fun x_342 => (fun b => [(15, .int x_342), (0, .ref (qb Y)), (1, .ref (xad (qX Y) 0)), (2, .ref (b 0)), (3, .ref (b 1)), (4, .int x4), (5, .ref (b 2)), (6, .ref (b 3)), (7, .int x7), (8, .int x8), (9, .int x9), (10, .int x10), (11, .int x11), (12, .int x12), (13, .ref (b 4)), (14, .ref (b 5))])) dL_law_277 rfl (show 15 < 27 by decide) (fun _ _ => rfl) h (fun x_342 h => ?_)
  refine q_iconst dL_law_279 rfl ki_0 ?_
  refine q_istoreV (fun b => [(16, .int (0 : Int32)), (15, .int x_342), (0, .ref (qb Y)), (1, .ref (xad (qX Y) 0)), (2, .ref (b 0)), (3, .ref (b 1)), (4, .int x4), (5, .ref (b 2)), (6, .ref (b 3)), (7, .int x7), (8, .int x8), (9, .int x9), (10, .int x10), (11, .int x11), (12, .int x12), (13, .ref (b 4)), (14, .ref (b 5))]) dL_law_280 rfl (show 16 < 27 by decide) (fun _ => rfl) ?_
  refine q_iconst dL_law_282 rfl ki_1 ?_
  refine q_istoreV (fun b => [(17, .int (1 : Int32)), (16, .int (0 : Int32)), (15, .int x_342), (0, .ref (qb Y)), (1, .ref (xad (qX Y) 0)), (2, .ref (b 0)), (3, .ref (b 1)), (4, .int x4), (5, .ref (b 2)), (6, .ref (b 3)), (7, .int x7), (8, .int x8), (9, .int x9), (10, .int x10), (11, .int x11), (12, .int x12), (13, .ref (b 4)), (14, .ref (b 5))]) dL_law_283 rfl (show 17 < 27 by decide) (fun _ => rfl) ?_
  refine q_iconst dL_law_285 rfl ki_0 ?_
  refine q_istoreV (fun b => [(18, .int (0 : Int32)), (17, .int (1 : Int32)), (16, .int (0 : Int32)), (15, .int x_342), (0, .ref (qb Y)), (1, .ref (xad (qX Y) 0)), (2, .ref (b 0)), (3, .ref (b 1)), (4, .int x4), (5, .ref (b 2)), (6, .ref (b 3)), (7, .int x7), (8, .int x8), (9, .int x9), (10, .int x10), (11, .int x11), (12, .int x12), (13, .ref (b 4)), (14, .ref (b 5))]) dL_law_286 rfl (show 18 < 27 by decide) (fun _ => rfl) ?_
  refine q_sub [4, 5, 6, 7, 8, 9, 10, 11, 12, 13, 14, 15, 16, 17, 18, 3, 2, 1, 0] (fun b => [(0, .ref (qb Y)), (1, .ref (xad (qX Y) 0)), (2, .ref (b 0)), (3, .ref (b 1)), (4, .int x4), (5, .ref (b 2)), (6, .ref (b 3)), (7, .int x7), (8, .int x8), (9, .int x9), (10, .int x10), (11, .int x11), (12, .int x12), (13, .ref (b 4)), (14, .ref (b 5)), (15, .int x_342), (16, .int (0 : Int32)), (17, .int (1 : Int32)), (18, .int (0 : Int32))]) (fun _ => rfl) ?_
  exact lL_law_288 hE rl191 hr191 rl210 hr210 rl231 hr231 FU σ _ A0 A1 A2 A3 A4 A5 x4 x7 x8 x9 x10 x11 x12 x_342 (0 : Int32) (1 : Int32) (0 : Int32) h
noncomputable def BL_law_231 (L : Nat) (xs : Nat → Int32) (rl191 : Mem → Nat → (Nat → Int32) → (Nat → Int32) → (Nat → Int32) → (Nat → Int64) → Int32 → Int32 → Option (Int32)) (rl210 : Mem → Nat → (Nat → Int32) → (Nat → Int32) → (Nat → Int32) → (Nat → Int64) → Int32 → Int32 → Int32 → Int32 → Int32 → Int32 → Option (Int32)) (rl231 : Mem → Nat → (Nat → Int32) → (Nat → Int32) → (Nat → Int32) → (Nat → Int64) → Int32 → Int32 → Int32 → Int32 → Int32 → Int32 → Int32 → Option (Int32)) (σ : Mem) (n : Nat) (A0 : Nat → Int32) (A1 : Nat → Int32) (A2 : Nat → Int32) (A3 : Nat → Int64) (x4 : Int32) (x7 : Int32) (x8 : Int32) (x9 : Int32) (x10 : Int32) (x11 : Int32) (x12 : Int32) : Option (Int32) :=
  if x10 ≤ x12 then
  (nm (x11 + (1 : Int32)) fun x_343 =>
  rl210 σ n A0 A1 A2 A3 x4 x7 x8 x9 x10 x_343)
  else
  (if 0 ≤ x8 then
  (nm (x11 + (1 : Int32)) fun x_344 =>
  rl210 σ n A0 A1 A2 A3 x4 x7 x8 x9 x10 x_344)
  else
  (bn (FL_copied A2 0) fun o345 =>
  al 600000 n 1 fun n346 =>
  al 600000 n346 1 fun n347 =>
  rd (0 : Int32) 3 fun j348 =>
  stB (0 : Int32) 3 zL (A3 j348) fun f349 =>
  if x4 ≤ 0 then
  (FL_law_276 L xs rl191 rl210 rl231 σ n347 A0 A1 A2 A3 o345 f349 x4 x7 x8 x9 x10 x11 x12 (1 : Int32) x10)
  else
  (FL_law_276 L xs rl191 rl210 rl231 σ n347 A0 A1 A2 A3 o345 f349 x4 x7 x8 x9 x10 x11 x12 x4 x10)))
set_option maxHeartbeats 4000000 in
set_option maxRecDepth 100000 in
theorem jL_law_231 {Y : QX} {out : Int32} (hE : ∀ σ2 : Mem, EndQ Y mL_law .ireturn [] (some σ2) [] (fun _ => [.int out])) (rl191 : Mem → Nat → (Nat → Int32) → (Nat → Int32) → (Nat → Int32) → (Nat → Int64) → Int32 → Int32 → Option (Int32)) (hr191 : ∀ (σ : Mem) (n : Nat) (A0 : Nat → Int32) (A1 : Nat → Int32) (A2 : Nat → Int32) (A3 : Nat → Int64) (x4 : Int32) (x7 : Int32), rl191 σ n A0 A1 A2 A3 x4 x7 = some out → JQ Y mL_law (some σ) [] [.inl (24, A0), .inl (36, A1), .inl (6, A2), .inr (3, A3)] n 191 (fun b => [(0, .ref (qb Y)), (1, .ref (xad (qX Y) 0)), (2, .ref (b 0)), (3, .ref (b 1)), (4, .int x4), (5, .ref (b 2)), (6, .ref (b 3)), (7, .int x7)]) (fun _ => [])) (rl210 : Mem → Nat → (Nat → Int32) → (Nat → Int32) → (Nat → Int32) → (Nat → Int64) → Int32 → Int32 → Int32 → Int32 → Int32 → Int32 → Option (Int32)) (hr210 : ∀ (σ : Mem) (n : Nat) (A0 : Nat → Int32) (A1 : Nat → Int32) (A2 : Nat → Int32) (A3 : Nat → Int64) (x4 : Int32) (x7 : Int32) (x8 : Int32) (x9 : Int32) (x10 : Int32) (x11 : Int32), rl210 σ n A0 A1 A2 A3 x4 x7 x8 x9 x10 x11 = some out → JQ Y mL_law (some σ) [] [.inl (24, A0), .inl (36, A1), .inl (6, A2), .inr (3, A3)] n 210 (fun b => [(0, .ref (qb Y)), (1, .ref (xad (qX Y) 0)), (2, .ref (b 0)), (3, .ref (b 1)), (4, .int x4), (5, .ref (b 2)), (6, .ref (b 3)), (7, .int x7), (8, .int x8), (9, .int x9), (10, .int x10), (11, .int x11)]) (fun _ => [])) (rl231 : Mem → Nat → (Nat → Int32) → (Nat → Int32) → (Nat → Int32) → (Nat → Int64) → Int32 → Int32 → Int32 → Int32 → Int32 → Int32 → Int32 → Option (Int32)) (hr231 : ∀ (σ : Mem) (n : Nat) (A0 : Nat → Int32) (A1 : Nat → Int32) (A2 : Nat → Int32) (A3 : Nat → Int64) (x4 : Int32) (x7 : Int32) (x8 : Int32) (x9 : Int32) (x10 : Int32) (x11 : Int32) (x12 : Int32), rl231 σ n A0 A1 A2 A3 x4 x7 x8 x9 x10 x11 x12 = some out → JQ Y mL_law (some σ) [] [.inl (24, A0), .inl (36, A1), .inl (6, A2), .inr (3, A3)] n 231 (fun b => [(0, .ref (qb Y)), (1, .ref (xad (qX Y) 0)), (2, .ref (b 0)), (3, .ref (b 1)), (4, .int x4), (5, .ref (b 2)), (6, .ref (b 3)), (7, .int x7), (8, .int x8), (9, .int x9), (10, .int x10), (11, .int x11), (12, .int x12)]) (fun _ => [])) (σ : Mem) (n : Nat) (A0 : Nat → Int32) (A1 : Nat → Int32) (A2 : Nat → Int32) (A3 : Nat → Int64) (x4 : Int32) (x7 : Int32) (x8 : Int32) (x9 : Int32) (x10 : Int32) (x11 : Int32) (x12 : Int32) (h : BL_law_231 (qL Y) (qs Y) rl191 rl210 rl231 σ n A0 A1 A2 A3 x4 x7 x8 x9 x10 x11 x12 = some out) : JQ Y mL_law (some σ) [] [.inl (24, A0), .inl (36, A1), .inl (6, A2), .inr (3, A3)] n 231 (fun b => [(0, .ref (qb Y)), (1, .ref (xad (qX Y) 0)), (2, .ref (b 0)), (3, .ref (b 1)), (4, .int x4), (5, .ref (b 2)), (6, .ref (b 3)), (7, .int x7), (8, .int x8), (9, .int x9), (10, .int x10), (11, .int x11), (12, .int x12)]) (fun _ => []) := by
  refine q_iload 12 dL_law_231 rfl (fun _ => rfl) ?_
  refine q_iload 10 dL_law_233 rfl (fun _ => rfl) ?_
  refine q_icmp_ge dL_law_235 rfl rfl h (fun c h => ?_) (fun c h => ?_)
  · refine q_iinc 11 (fun x_343 => (fun b => [(11, .int x_343), (0, .ref (qb Y)), (1, .ref (xad (qX Y) 0)), (2, .ref (b 0)), (3, .ref (b 1)), (4, .int x4), (5, .ref (b 2)), (6, .ref (b 3)), (7, .int x7), (8, .int x8), (9, .int x9), (10, .int x10), (12, .int x12)])) dL_law_413 rfl (fun _ => rfl) ki_1 (show 11 < 27 by decide) (fun _ _ => rfl) h (fun x_343 h => ?_)
    refine q_goto dL_law_416 rfl ?_
    refine q_sub [1, 2, 3, 4, 5, 6, 7, 8, 9, 10, 11, 0] (fun b => [(0, .ref (qb Y)), (1, .ref (xad (qX Y) 0)), (2, .ref (b 0)), (3, .ref (b 1)), (4, .int x4), (5, .ref (b 2)), (6, .ref (b 3)), (7, .int x7), (8, .int x8), (9, .int x9), (10, .int x10), (11, .int x_343)]) (fun _ => rfl) ?_
    exact hr210 σ _ A0 A1 A2 A3 x4 x7 x8 x9 x10 x_343 h
  · refine q_iload 8 dL_law_238 rfl (fun _ => rfl) ?_
    refine q_if_ge dL_law_240 rfl rfl h (fun c h => ?_) (fun c h => ?_)
    · refine q_iinc 11 (fun x_344 => (fun b => [(11, .int x_344), (0, .ref (qb Y)), (1, .ref (xad (qX Y) 0)), (2, .ref (b 0)), (3, .ref (b 1)), (4, .int x4), (5, .ref (b 2)), (6, .ref (b 3)), (7, .int x7), (8, .int x8), (9, .int x9), (10, .int x10), (12, .int x12)])) dL_law_413 rfl (fun _ => rfl) ki_1 (show 11 < 27 by decide) (fun _ _ => rfl) h (fun x_344 h => ?_)
      refine q_goto dL_law_416 rfl ?_
      refine q_sub [1, 2, 3, 4, 5, 6, 7, 8, 9, 10, 11, 0] (fun b => [(0, .ref (qb Y)), (1, .ref (xad (qX Y) 0)), (2, .ref (b 0)), (3, .ref (b 1)), (4, .int x4), (5, .ref (b 2)), (6, .ref (b 3)), (7, .int x7), (8, .int x8), (9, .int x9), (10, .int x10), (11, .int x_344)]) (fun _ => rfl) ?_
      exact hr210 σ _ A0 A1 A2 A3 x4 x7 x8 x9 x10 x_344 h
    · refine q_aload 5 (fun b => b 2) dL_law_243 rfl (fun _ => rfl) ?_
      refine q_pick [0, 1, 3, 2] [.inl (24, A0), .inl (36, A1), .inr (3, A3), .inl (6, A2)] [] (fun b => [(0, .ref (qb Y)), (1, .ref (xad (qX Y) 0)), (2, .ref (b 0)), (3, .ref (b 1)), (4, .int x4), (5, .ref (b 3)), (6, .ref (b 2)), (7, .int x7), (8, .int x8), (9, .int x9), (10, .int x10), (11, .int x11), (12, .int x12)]) (fun b => [.ref (b 3)]) rfl rfl (by decide) rfl (fun _ => rfl) (fun _ => rfl) ?_
      obtain ⟨o345, hc, h⟩ := bn_of h
      refine q_callA [.inl (24, A0), .inl (36, A1), .inr (3, A3)] 3 1 4 (fun b => [.ref (b 3)]) (fun _ => []) (coL_copied A2 o345 hc) rfl rfl rfl rfl ms_RL_44 (by decide) h (fun _ => rfl) (fun _ => rfl) (fun _ => rfl) (fun _ => Nat.le_of_ble_eq_true rfl) (fun _ _ => rfl) (fun _ _ => rfl) (by decide) dL_law_245 rfl (fun h => ?_)
      show JQ Y mL_law (some σ) [] [.inl (24, A0), .inl (36, A1), .inr (3, A3), .inl (6, A2), .inl (6, o345)] _ 248 (fun b => [(0, .ref (qb Y)), (1, .ref (xad (qX Y) 0)), (2, .ref (b 0)), (3, .ref (b 1)), (4, .int x4), (5, .ref (b 3)), (6, .ref (b 2)), (7, .int x7), (8, .int x8), (9, .int x9), (10, .int x10), (11, .int x11), (12, .int x12)]) (fun b => [.ref (b 4)])
      refine q_astore (fun b => b 4) (fun b => [(13, .ref (b 4)), (0, .ref (qb Y)), (1, .ref (xad (qX Y) 0)), (2, .ref (b 0)), (3, .ref (b 1)), (4, .int x4), (5, .ref (b 3)), (6, .ref (b 2)), (7, .int x7), (8, .int x8), (9, .int x9), (10, .int x10), (11, .int x11), (12, .int x12)]) dL_law_248 rfl (show 13 < 27 by decide) (fun _ => rfl) ?_
      refine q_iconst dL_law_250 rfl ki_3 ?_
      refine q_newL 1 5 3 [.inl (24, A0), .inl (36, A1), .inr (3, A3), .inl (6, A2), .inl (6, o345), .inr (3, zL)] aw_J (by decide) (by decide) (by decide) (by decide) (by decide) rfl (fun _ _ => rfl) (fun _ _ => rfl) (by decide) rfl dL_law_251 rfl h (fun h => ?_)
      refine q_astore (fun b => b 5) (fun b => [(14, .ref (b 5)), (13, .ref (b 4)), (0, .ref (qb Y)), (1, .ref (xad (qX Y) 0)), (2, .ref (b 0)), (3, .ref (b 1)), (4, .int x4), (5, .ref (b 3)), (6, .ref (b 2)), (7, .int x7), (8, .int x8), (9, .int x9), (10, .int x10), (11, .int x11), (12, .int x12)]) dL_law_253 rfl (show 14 < 27 by decide) (fun _ => rfl) ?_
      refine q_aload 0 (fun b => b 5) dL_law_255 rfl (fun _ => rfl) ?_
      refine q_iconst dL_law_257 rfl ki_0 ?_
      refine q_aload 8 (fun b => b 2) dL_law_258 rfl (fun _ => rfl) ?_
      refine q_iconst dL_law_260 rfl ki_0 ?_
      refine q_lald 2 3 A3 rfl dL_law_261 rfl h (fun j348 h => ?_)
      refine q_last 5 3 zL (fun f349 => [.inl (24, A0), .inl (36, A1), .inr (3, A3), .inl (6, A2), .inl (6, o345), .inr (3, f349)]) rfl (fun _ => rfl) dL_law_262 rfl h (fun f349 h => ?_)
      refine q_iload 12 dL_law_263 rfl (fun _ => rfl) ?_
      refine q_iload 6 dL_law_265 rfl (fun _ => rfl) ?_
      refine q_if_le dL_law_267 rfl rfl h (fun c h => ?_) (fun c h => ?_)
      · refine q_iconst dL_law_275 rfl ki_1 ?_
        refine q_sub [2, 3, 4, 5, 6, 7, 8, 9, 10, 11, 12, 13, 14, 1, 0] (fun b => [(0, .ref (qb Y)), (1, .ref (xad (qX Y) 0)), (2, .ref (b 0)), (3, .ref (b 1)), (4, .int x4), (5, .ref (b 3)), (6, .ref (b 2)), (7, .int x7), (8, .int x8), (9, .int x9), (10, .int x10), (11, .int x11), (12, .int x12), (13, .ref (b 4)), (14, .ref (b 5))]) (fun _ => rfl) ?_
        refine q_pick [0, 1, 3, 2, 4, 5] [.inl (24, A0), .inl (36, A1), .inl (6, A2), .inr (3, A3), .inl (6, o345), .inr (3, f349)] [] (fun b => [(0, .ref (qb Y)), (1, .ref (xad (qX Y) 0)), (2, .ref (b 0)), (3, .ref (b 1)), (4, .int x4), (5, .ref (b 2)), (6, .ref (b 3)), (7, .int x7), (8, .int x8), (9, .int x9), (10, .int x10), (11, .int x11), (12, .int x12), (13, .ref (b 4)), (14, .ref (b 5))]) (fun _ => [.int (1 : Int32), .int x10]) rfl rfl (by decide) rfl (fun _ => rfl) (fun _ => rfl) ?_
        exact jL_law_276 hE rl191 hr191 rl210 hr210 rl231 hr231 σ _ A0 A1 A2 A3 o345 f349 x4 x7 x8 x9 x10 x11 x12 (1 : Int32) x10 h
      · refine q_iload 6 dL_law_270 rfl (fun _ => rfl) ?_
        refine q_goto dL_law_272 rfl ?_
        refine q_sub [2, 3, 4, 5, 6, 7, 8, 9, 10, 11, 12, 13, 14, 1, 0] (fun b => [(0, .ref (qb Y)), (1, .ref (xad (qX Y) 0)), (2, .ref (b 0)), (3, .ref (b 1)), (4, .int x4), (5, .ref (b 3)), (6, .ref (b 2)), (7, .int x7), (8, .int x8), (9, .int x9), (10, .int x10), (11, .int x11), (12, .int x12), (13, .ref (b 4)), (14, .ref (b 5))]) (fun _ => rfl) ?_
        refine q_pick [0, 1, 3, 2, 4, 5] [.inl (24, A0), .inl (36, A1), .inl (6, A2), .inr (3, A3), .inl (6, o345), .inr (3, f349)] [] (fun b => [(0, .ref (qb Y)), (1, .ref (xad (qX Y) 0)), (2, .ref (b 0)), (3, .ref (b 1)), (4, .int x4), (5, .ref (b 2)), (6, .ref (b 3)), (7, .int x7), (8, .int x8), (9, .int x9), (10, .int x10), (11, .int x11), (12, .int x12), (13, .ref (b 4)), (14, .ref (b 5))]) (fun _ => [.int x4, .int x10]) rfl rfl (by decide) rfl (fun _ => rfl) (fun _ => rfl) ?_
        exact jL_law_276 hE rl191 hr191 rl210 hr210 rl231 hr231 σ _ A0 A1 A2 A3 o345 f349 x4 x7 x8 x9 x10 x11 x12 x4 x10 h
noncomputable def FL_law_231 (L : Nat) (xs : Nat → Int32) (rl191 : Mem → Nat → (Nat → Int32) → (Nat → Int32) → (Nat → Int32) → (Nat → Int64) → Int32 → Int32 → Option (Int32)) (rl210 : Mem → Nat → (Nat → Int32) → (Nat → Int32) → (Nat → Int32) → (Nat → Int64) → Int32 → Int32 → Int32 → Int32 → Int32 → Int32 → Option (Int32)) (fu : Nat) : Mem → Nat → (Nat → Int32) → (Nat → Int32) → (Nat → Int32) → (Nat → Int64) → Int32 → Int32 → Int32 → Int32 → Int32 → Int32 → Int32 → Option (Int32) :=
  Nat.rec (fun _ _ _ _ _ _ _ _ _ _ _ _ _ => none) (fun _ ih => BL_law_231 L xs rl191 rl210 ih) fu
theorem lL_law_231 {Y : QX} {out : Int32} (hE : ∀ σ2 : Mem, EndQ Y mL_law .ireturn [] (some σ2) [] (fun _ => [.int out])) (rl191 : Mem → Nat → (Nat → Int32) → (Nat → Int32) → (Nat → Int32) → (Nat → Int64) → Int32 → Int32 → Option (Int32)) (hr191 : ∀ (σ : Mem) (n : Nat) (A0 : Nat → Int32) (A1 : Nat → Int32) (A2 : Nat → Int32) (A3 : Nat → Int64) (x4 : Int32) (x7 : Int32), rl191 σ n A0 A1 A2 A3 x4 x7 = some out → JQ Y mL_law (some σ) [] [.inl (24, A0), .inl (36, A1), .inl (6, A2), .inr (3, A3)] n 191 (fun b => [(0, .ref (qb Y)), (1, .ref (xad (qX Y) 0)), (2, .ref (b 0)), (3, .ref (b 1)), (4, .int x4), (5, .ref (b 2)), (6, .ref (b 3)), (7, .int x7)]) (fun _ => [])) (rl210 : Mem → Nat → (Nat → Int32) → (Nat → Int32) → (Nat → Int32) → (Nat → Int64) → Int32 → Int32 → Int32 → Int32 → Int32 → Int32 → Option (Int32)) (hr210 : ∀ (σ : Mem) (n : Nat) (A0 : Nat → Int32) (A1 : Nat → Int32) (A2 : Nat → Int32) (A3 : Nat → Int64) (x4 : Int32) (x7 : Int32) (x8 : Int32) (x9 : Int32) (x10 : Int32) (x11 : Int32), rl210 σ n A0 A1 A2 A3 x4 x7 x8 x9 x10 x11 = some out → JQ Y mL_law (some σ) [] [.inl (24, A0), .inl (36, A1), .inl (6, A2), .inr (3, A3)] n 210 (fun b => [(0, .ref (qb Y)), (1, .ref (xad (qX Y) 0)), (2, .ref (b 0)), (3, .ref (b 1)), (4, .int x4), (5, .ref (b 2)), (6, .ref (b 3)), (7, .int x7), (8, .int x8), (9, .int x9), (10, .int x10), (11, .int x11)]) (fun _ => [])) : ∀ (fu : Nat) (σ : Mem) (n : Nat) (A0 : Nat → Int32) (A1 : Nat → Int32) (A2 : Nat → Int32) (A3 : Nat → Int64) (x4 : Int32) (x7 : Int32) (x8 : Int32) (x9 : Int32) (x10 : Int32) (x11 : Int32) (x12 : Int32), FL_law_231 (qL Y) (qs Y) rl191 rl210 fu σ n A0 A1 A2 A3 x4 x7 x8 x9 x10 x11 x12 = some out → JQ Y mL_law (some σ) [] [.inl (24, A0), .inl (36, A1), .inl (6, A2), .inr (3, A3)] n 231 (fun b => [(0, .ref (qb Y)), (1, .ref (xad (qX Y) 0)), (2, .ref (b 0)), (3, .ref (b 1)), (4, .int x4), (5, .ref (b 2)), (6, .ref (b 3)), (7, .int x7), (8, .int x8), (9, .int x9), (10, .int x10), (11, .int x11), (12, .int x12)]) (fun _ => []) := by
  intro fu
  induction fu with
  | zero => intro σ n A0 A1 A2 A3 x4 x7 x8 x9 x10 x11 x12 h; exact nn h
  | succ fu ih => intro σ n A0 A1 A2 A3 x4 x7 x8 x9 x10 x11 x12 h; exact jL_law_231 hE rl191 hr191 rl210 hr210 (FL_law_231 (qL Y) (qs Y) rl191 rl210 fu) ih σ n A0 A1 A2 A3 x4 x7 x8 x9 x10 x11 x12 h
noncomputable def BL_law_210 (L : Nat) (xs : Nat → Int32) (rl191 : Mem → Nat → (Nat → Int32) → (Nat → Int32) → (Nat → Int32) → (Nat → Int64) → Int32 → Int32 → Option (Int32)) (rl210 : Mem → Nat → (Nat → Int32) → (Nat → Int32) → (Nat → Int32) → (Nat → Int64) → Int32 → Int32 → Int32 → Int32 → Int32 → Int32 → Option (Int32)) (σ : Mem) (n : Nat) (A0 : Nat → Int32) (A1 : Nat → Int32) (A2 : Nat → Int32) (A3 : Nat → Int64) (x4 : Int32) (x7 : Int32) (x8 : Int32) (x9 : Int32) (x10 : Int32) (x11 : Int32) : Option (Int32) :=
  if (4 : Int32) ≤ x11 then
  (FL_law_419 L xs rl191 σ n A0 A1 A2 A3 x4 x7 x8 x9 x10)
  else
  (if 0 ≤ x8 then
  (FL_law_419 L xs rl191 σ n A0 A1 A2 A3 x4 x7 x8 x9 x10)
  else
  (nm (x10 * x4) fun x_350 =>
  FL_law_231 L xs rl191 rl210 FU σ n A0 A1 A2 A3 x4 x7 x8 x9 x_350 x11 (0 : Int32)))
set_option maxHeartbeats 4000000 in
set_option maxRecDepth 100000 in
theorem jL_law_210 {Y : QX} {out : Int32} (hE : ∀ σ2 : Mem, EndQ Y mL_law .ireturn [] (some σ2) [] (fun _ => [.int out])) (rl191 : Mem → Nat → (Nat → Int32) → (Nat → Int32) → (Nat → Int32) → (Nat → Int64) → Int32 → Int32 → Option (Int32)) (hr191 : ∀ (σ : Mem) (n : Nat) (A0 : Nat → Int32) (A1 : Nat → Int32) (A2 : Nat → Int32) (A3 : Nat → Int64) (x4 : Int32) (x7 : Int32), rl191 σ n A0 A1 A2 A3 x4 x7 = some out → JQ Y mL_law (some σ) [] [.inl (24, A0), .inl (36, A1), .inl (6, A2), .inr (3, A3)] n 191 (fun b => [(0, .ref (qb Y)), (1, .ref (xad (qX Y) 0)), (2, .ref (b 0)), (3, .ref (b 1)), (4, .int x4), (5, .ref (b 2)), (6, .ref (b 3)), (7, .int x7)]) (fun _ => [])) (rl210 : Mem → Nat → (Nat → Int32) → (Nat → Int32) → (Nat → Int32) → (Nat → Int64) → Int32 → Int32 → Int32 → Int32 → Int32 → Int32 → Option (Int32)) (hr210 : ∀ (σ : Mem) (n : Nat) (A0 : Nat → Int32) (A1 : Nat → Int32) (A2 : Nat → Int32) (A3 : Nat → Int64) (x4 : Int32) (x7 : Int32) (x8 : Int32) (x9 : Int32) (x10 : Int32) (x11 : Int32), rl210 σ n A0 A1 A2 A3 x4 x7 x8 x9 x10 x11 = some out → JQ Y mL_law (some σ) [] [.inl (24, A0), .inl (36, A1), .inl (6, A2), .inr (3, A3)] n 210 (fun b => [(0, .ref (qb Y)), (1, .ref (xad (qX Y) 0)), (2, .ref (b 0)), (3, .ref (b 1)), (4, .int x4), (5, .ref (b 2)), (6, .ref (b 3)), (7, .int x7), (8, .int x8), (9, .int x9), (10, .int x10), (11, .int x11)]) (fun _ => [])) (σ : Mem) (n : Nat) (A0 : Nat → Int32) (A1 : Nat → Int32) (A2 : Nat → Int32) (A3 : Nat → Int64) (x4 : Int32) (x7 : Int32) (x8 : Int32) (x9 : Int32) (x10 : Int32) (x11 : Int32) (h : BL_law_210 (qL Y) (qs Y) rl191 rl210 σ n A0 A1 A2 A3 x4 x7 x8 x9 x10 x11 = some out) : JQ Y mL_law (some σ) [] [.inl (24, A0), .inl (36, A1), .inl (6, A2), .inr (3, A3)] n 210 (fun b => [(0, .ref (qb Y)), (1, .ref (xad (qX Y) 0)), (2, .ref (b 0)), (3, .ref (b 1)), (4, .int x4), (5, .ref (b 2)), (6, .ref (b 3)), (7, .int x7), (8, .int x8), (9, .int x9), (10, .int x10), (11, .int x11)]) (fun _ => []) := by
  refine q_iload 11 dL_law_210 rfl (fun _ => rfl) ?_
  refine q_iconst dL_law_212 rfl ki_4 ?_
  refine q_icmp_ge dL_law_213 rfl rfl h (fun c h => ?_) (fun c h => ?_)
  · refine q_sub [0, 1, 2, 3, 4, 5, 6, 7, 8, 9, 10] (fun b => [(0, .ref (qb Y)), (1, .ref (xad (qX Y) 0)), (2, .ref (b 0)), (3, .ref (b 1)), (4, .int x4), (5, .ref (b 2)), (6, .ref (b 3)), (7, .int x7), (8, .int x8), (9, .int x9), (10, .int x10)]) (fun _ => rfl) ?_
    exact jL_law_419 hE rl191 hr191 σ _ A0 A1 A2 A3 x4 x7 x8 x9 x10 h
  · refine q_iload 8 dL_law_216 rfl (fun _ => rfl) ?_
    refine q_if_ge dL_law_218 rfl rfl h (fun c h => ?_) (fun c h => ?_)
    · refine q_sub [0, 1, 2, 3, 4, 5, 6, 7, 8, 9, 10] (fun b => [(0, .ref (qb Y)), (1, .ref (xad (qX Y) 0)), (2, .ref (b 0)), (3, .ref (b 1)), (4, .int x4), (5, .ref (b 2)), (6, .ref (b 3)), (7, .int x7), (8, .int x8), (9, .int x9), (10, .int x10)]) (fun _ => rfl) ?_
      exact jL_law_419 hE rl191 hr191 σ _ A0 A1 A2 A3 x4 x7 x8 x9 x10 h
    · refine q_iload 10 dL_law_221 rfl (fun _ => rfl) ?_
      refine q_iload 4 dL_law_223 rfl (fun _ => rfl) ?_
      refine q_imul dL_law_225 rfl ?_
      refine q_istore (fun x_350 => (fun b => [(10, .int x_350), (0, .ref (qb Y)), (1, .ref (xad (qX Y) 0)), (2, .ref (b 0)), (3, .ref (b 1)), (4, .int x4), (5, .ref (b 2)), (6, .ref (b 3)), (7, .int x7), (8, .int x8), (9, .int x9), (11, .int x11)])) dL_law_226 rfl (show 10 < 27 by decide) (fun _ _ => rfl) h (fun x_350 h => ?_)
      refine q_iconst dL_law_228 rfl ki_0 ?_
      refine q_istoreV (fun b => [(12, .int (0 : Int32)), (10, .int x_350), (0, .ref (qb Y)), (1, .ref (xad (qX Y) 0)), (2, .ref (b 0)), (3, .ref (b 1)), (4, .int x4), (5, .ref (b 2)), (6, .ref (b 3)), (7, .int x7), (8, .int x8), (9, .int x9), (11, .int x11)]) dL_law_229 rfl (show 12 < 27 by decide) (fun _ => rfl) ?_
      refine q_sub [2, 3, 4, 5, 6, 7, 8, 9, 10, 11, 1, 12, 0] (fun b => [(0, .ref (qb Y)), (1, .ref (xad (qX Y) 0)), (2, .ref (b 0)), (3, .ref (b 1)), (4, .int x4), (5, .ref (b 2)), (6, .ref (b 3)), (7, .int x7), (8, .int x8), (9, .int x9), (10, .int x_350), (11, .int x11), (12, .int (0 : Int32))]) (fun _ => rfl) ?_
      exact lL_law_231 hE rl191 hr191 rl210 hr210 FU σ _ A0 A1 A2 A3 x4 x7 x8 x9 x_350 x11 (0 : Int32) h
noncomputable def FL_law_210 (L : Nat) (xs : Nat → Int32) (rl191 : Mem → Nat → (Nat → Int32) → (Nat → Int32) → (Nat → Int32) → (Nat → Int64) → Int32 → Int32 → Option (Int32)) (fu : Nat) : Mem → Nat → (Nat → Int32) → (Nat → Int32) → (Nat → Int32) → (Nat → Int64) → Int32 → Int32 → Int32 → Int32 → Int32 → Int32 → Option (Int32) :=
  Nat.rec (fun _ _ _ _ _ _ _ _ _ _ _ _ => none) (fun _ ih => BL_law_210 L xs rl191 ih) fu
theorem lL_law_210 {Y : QX} {out : Int32} (hE : ∀ σ2 : Mem, EndQ Y mL_law .ireturn [] (some σ2) [] (fun _ => [.int out])) (rl191 : Mem → Nat → (Nat → Int32) → (Nat → Int32) → (Nat → Int32) → (Nat → Int64) → Int32 → Int32 → Option (Int32)) (hr191 : ∀ (σ : Mem) (n : Nat) (A0 : Nat → Int32) (A1 : Nat → Int32) (A2 : Nat → Int32) (A3 : Nat → Int64) (x4 : Int32) (x7 : Int32), rl191 σ n A0 A1 A2 A3 x4 x7 = some out → JQ Y mL_law (some σ) [] [.inl (24, A0), .inl (36, A1), .inl (6, A2), .inr (3, A3)] n 191 (fun b => [(0, .ref (qb Y)), (1, .ref (xad (qX Y) 0)), (2, .ref (b 0)), (3, .ref (b 1)), (4, .int x4), (5, .ref (b 2)), (6, .ref (b 3)), (7, .int x7)]) (fun _ => [])) : ∀ (fu : Nat) (σ : Mem) (n : Nat) (A0 : Nat → Int32) (A1 : Nat → Int32) (A2 : Nat → Int32) (A3 : Nat → Int64) (x4 : Int32) (x7 : Int32) (x8 : Int32) (x9 : Int32) (x10 : Int32) (x11 : Int32), FL_law_210 (qL Y) (qs Y) rl191 fu σ n A0 A1 A2 A3 x4 x7 x8 x9 x10 x11 = some out → JQ Y mL_law (some σ) [] [.inl (24, A0), .inl (36, A1), .inl (6, A2), .inr (3, A3)] n 210 (fun b => [(0, .ref (qb Y)), (1, .ref (xad (qX Y) 0)), (2, .ref (b 0)), (3, .ref (b 1)), (4, .int x4), (5, .ref (b 2)), (6, .ref (b 3)), (7, .int x7), (8, .int x8), (9, .int x9), (10, .int x10), (11, .int x11)]) (fun _ => []) := by
  intro fu
  induction fu with
  | zero => intro σ n A0 A1 A2 A3 x4 x7 x8 x9 x10 x11 h; exact nn h
  | succ fu ih => intro σ n A0 A1 A2 A3 x4 x7 x8 x9 x10 x11 h; exact jL_law_210 hE rl191 hr191 (FL_law_210 (qL Y) (qs Y) rl191 fu) ih σ n A0 A1 A2 A3 x4 x7 x8 x9 x10 x11 h
noncomputable def BL_law_191 (L : Nat) (xs : Nat → Int32) (rl191 : Mem → Nat → (Nat → Int32) → (Nat → Int32) → (Nat → Int32) → (Nat → Int64) → Int32 → Int32 → Option (Int32)) (σ : Mem) (n : Nat) (A0 : Nat → Int32) (A1 : Nat → Int32) (A2 : Nat → Int32) (A3 : Nat → Int64) (x4 : Int32) (x7 : Int32) : Option (Int32) :=
  if (2 : Int32) ≤ x7 then
  (FL_law_708 L xs FU σ n A0 A1 A2 A3 x4 (0 : Int32))
  else
  (FL_law_210 L xs rl191 FU σ n A0 A1 A2 A3 x4 x7 (-9 : Int32) (0 : Int32) (1 : Int32) (1 : Int32))
set_option maxHeartbeats 4000000 in
set_option maxRecDepth 100000 in
theorem jL_law_191 {Y : QX} {out : Int32} (hE : ∀ σ2 : Mem, EndQ Y mL_law .ireturn [] (some σ2) [] (fun _ => [.int out])) (rl191 : Mem → Nat → (Nat → Int32) → (Nat → Int32) → (Nat → Int32) → (Nat → Int64) → Int32 → Int32 → Option (Int32)) (hr191 : ∀ (σ : Mem) (n : Nat) (A0 : Nat → Int32) (A1 : Nat → Int32) (A2 : Nat → Int32) (A3 : Nat → Int64) (x4 : Int32) (x7 : Int32), rl191 σ n A0 A1 A2 A3 x4 x7 = some out → JQ Y mL_law (some σ) [] [.inl (24, A0), .inl (36, A1), .inl (6, A2), .inr (3, A3)] n 191 (fun b => [(0, .ref (qb Y)), (1, .ref (xad (qX Y) 0)), (2, .ref (b 0)), (3, .ref (b 1)), (4, .int x4), (5, .ref (b 2)), (6, .ref (b 3)), (7, .int x7)]) (fun _ => [])) (σ : Mem) (n : Nat) (A0 : Nat → Int32) (A1 : Nat → Int32) (A2 : Nat → Int32) (A3 : Nat → Int64) (x4 : Int32) (x7 : Int32) (h : BL_law_191 (qL Y) (qs Y) rl191 σ n A0 A1 A2 A3 x4 x7 = some out) : JQ Y mL_law (some σ) [] [.inl (24, A0), .inl (36, A1), .inl (6, A2), .inr (3, A3)] n 191 (fun b => [(0, .ref (qb Y)), (1, .ref (xad (qX Y) 0)), (2, .ref (b 0)), (3, .ref (b 1)), (4, .int x4), (5, .ref (b 2)), (6, .ref (b 3)), (7, .int x7)]) (fun _ => []) := by
  refine q_iload 7 dL_law_191 rfl (fun _ => rfl) ?_
  refine q_iconst dL_law_193 rfl ki_2 ?_
  refine q_icmp_ge dL_law_194 rfl rfl h (fun c h => ?_) (fun c h => ?_)
  · refine q_iconst dL_law_705 rfl ki_0 ?_
    refine q_istoreV (fun b => [(7, .int (0 : Int32)), (0, .ref (qb Y)), (1, .ref (xad (qX Y) 0)), (2, .ref (b 0)), (3, .ref (b 1)), (4, .int x4), (5, .ref (b 2)), (6, .ref (b 3))]) dL_law_706 rfl (show 7 < 27 by decide) (fun _ => rfl) ?_
    refine q_sub [1, 2, 3, 4, 5, 6, 7, 0] (fun b => [(0, .ref (qb Y)), (1, .ref (xad (qX Y) 0)), (2, .ref (b 0)), (3, .ref (b 1)), (4, .int x4), (5, .ref (b 2)), (6, .ref (b 3)), (7, .int (0 : Int32))]) (fun _ => rfl) ?_
    exact lL_law_708 hE FU σ _ A0 A1 A2 A3 x4 (0 : Int32) h
  · refine q_bipush dL_law_197 rfl kb_m9 ?_
    refine q_istoreV (fun b => [(8, .int (-9 : Int32)), (0, .ref (qb Y)), (1, .ref (xad (qX Y) 0)), (2, .ref (b 0)), (3, .ref (b 1)), (4, .int x4), (5, .ref (b 2)), (6, .ref (b 3)), (7, .int x7)]) dL_law_199 rfl (show 8 < 27 by decide) (fun _ => rfl) ?_
    refine q_iconst dL_law_201 rfl ki_0 ?_
    refine q_istoreV (fun b => [(9, .int (0 : Int32)), (8, .int (-9 : Int32)), (0, .ref (qb Y)), (1, .ref (xad (qX Y) 0)), (2, .ref (b 0)), (3, .ref (b 1)), (4, .int x4), (5, .ref (b 2)), (6, .ref (b 3)), (7, .int x7)]) dL_law_202 rfl (show 9 < 27 by decide) (fun _ => rfl) ?_
    refine q_iconst dL_law_204 rfl ki_1 ?_
    refine q_istoreV (fun b => [(10, .int (1 : Int32)), (9, .int (0 : Int32)), (8, .int (-9 : Int32)), (0, .ref (qb Y)), (1, .ref (xad (qX Y) 0)), (2, .ref (b 0)), (3, .ref (b 1)), (4, .int x4), (5, .ref (b 2)), (6, .ref (b 3)), (7, .int x7)]) dL_law_205 rfl (show 10 < 27 by decide) (fun _ => rfl) ?_
    refine q_iconst dL_law_207 rfl ki_1 ?_
    refine q_istoreV (fun b => [(11, .int (1 : Int32)), (10, .int (1 : Int32)), (9, .int (0 : Int32)), (8, .int (-9 : Int32)), (0, .ref (qb Y)), (1, .ref (xad (qX Y) 0)), (2, .ref (b 0)), (3, .ref (b 1)), (4, .int x4), (5, .ref (b 2)), (6, .ref (b 3)), (7, .int x7)]) dL_law_208 rfl (show 11 < 27 by decide) (fun _ => rfl) ?_
    refine q_sub [4, 5, 6, 7, 8, 9, 10, 11, 3, 2, 1, 0] (fun b => [(0, .ref (qb Y)), (1, .ref (xad (qX Y) 0)), (2, .ref (b 0)), (3, .ref (b 1)), (4, .int x4), (5, .ref (b 2)), (6, .ref (b 3)), (7, .int x7), (8, .int (-9 : Int32)), (9, .int (0 : Int32)), (10, .int (1 : Int32)), (11, .int (1 : Int32))]) (fun _ => rfl) ?_
    exact lL_law_210 hE rl191 hr191 FU σ _ A0 A1 A2 A3 x4 x7 (-9 : Int32) (0 : Int32) (1 : Int32) (1 : Int32) h
noncomputable def FL_law_191 (L : Nat) (xs : Nat → Int32) (fu : Nat) : Mem → Nat → (Nat → Int32) → (Nat → Int32) → (Nat → Int32) → (Nat → Int64) → Int32 → Int32 → Option (Int32) :=
  Nat.rec (fun _ _ _ _ _ _ _ _ => none) (fun _ ih => BL_law_191 L xs ih) fu
theorem lL_law_191 {Y : QX} {out : Int32} (hE : ∀ σ2 : Mem, EndQ Y mL_law .ireturn [] (some σ2) [] (fun _ => [.int out])) : ∀ (fu : Nat) (σ : Mem) (n : Nat) (A0 : Nat → Int32) (A1 : Nat → Int32) (A2 : Nat → Int32) (A3 : Nat → Int64) (x4 : Int32) (x7 : Int32), FL_law_191 (qL Y) (qs Y) fu σ n A0 A1 A2 A3 x4 x7 = some out → JQ Y mL_law (some σ) [] [.inl (24, A0), .inl (36, A1), .inl (6, A2), .inr (3, A3)] n 191 (fun b => [(0, .ref (qb Y)), (1, .ref (xad (qX Y) 0)), (2, .ref (b 0)), (3, .ref (b 1)), (4, .int x4), (5, .ref (b 2)), (6, .ref (b 3)), (7, .int x7)]) (fun _ => []) := by
  intro fu
  induction fu with
  | zero => intro σ n A0 A1 A2 A3 x4 x7 h; exact nn h
  | succ fu ih => intro σ n A0 A1 A2 A3 x4 x7 h; exact jL_law_191 hE (FL_law_191 (qL Y) (qs Y) fu) ih σ n A0 A1 A2 A3 x4 x7 h
noncomputable def BL_law_78 (L : Nat) (xs : Nat → Int32) (rl78 : Mem → Nat → (Nat → Int32) → (Nat → Int32) → (Nat → Int32) → (Nat → Int64) → Int32 → Int32 → Option (Int32)) (σ : Mem) (n : Nat) (A0 : Nat → Int32) (A1 : Nat → Int32) (A2 : Nat → Int32) (A3 : Nat → Int64) (x4 : Int32) (x7 : Int32) : Option (Int32) :=
  if x7 ≤ 0 then
  (FL_law_191 L xs FU σ n A0 A1 A2 A3 x4 (0 : Int32))
  else
  (if x4 ≤ 0 then
  (FL_law_191 L xs FU σ n A0 A1 A2 A3 x4 (0 : Int32))
  else
  (bn (FL_cell L xs (7 : Int32)) fun o351 =>
  bn (FL_low (o351 >>> (((3 : Int32) * x7) &&& 31)) x4) fun o352 =>
  bn (FL_copied A2 0) fun o353 =>
  al 600000 n 1 fun n354 =>
  al 600000 n354 1 fun n355 =>
  rd (0 : Int32) 3 fun j356 =>
  stB (0 : Int32) 3 zL (A3 j356) fun f357 =>
  dzI (4 : Int32) <|
  dzI (4 : Int32) <|
  bn (FL_push A0 A1 o353 f357 (o352 / (4 : Int32)) (o352 - o352 / (4 : Int32) * (4 : Int32))) fun o358 =>
  if o358.1 < 0 then
  (nm (x7 + (-1 : Int32)) fun x_359 =>
  rl78 σ n355 A0 A1 A2 A3 x4 x_359)
  else
  (dzI (4 : Int32) <|
  dzI (4 : Int32) <|
  bi (FX8_push σ (o352 / (4 : Int32)) (o352 - o352 / (4 : Int32) * (4 : Int32))) fun r360 σ361 =>
  dzI (4 : Int32) <|
  rd (o352 / (4 : Int32)) 6 fun j362 =>
  if r360 = (o358.2.1 j362) then
  (rd (0 : Int32) 3 fun j363 =>
  stB (0 : Int32) 3 A3 (o358.2.2 j363) fun f364 =>
  nm (x7 + (-1 : Int32)) fun x_365 =>
  rl78 σ361 n355 A0 A1 o358.2.1 f364 x4 x_365)
  else
  (some (0 : Int32)))))
set_option maxHeartbeats 4000000 in
set_option maxRecDepth 100000 in
theorem jL_law_78 {Y : QX} {out : Int32} (hE : ∀ σ2 : Mem, EndQ Y mL_law .ireturn [] (some σ2) [] (fun _ => [.int out])) (rl78 : Mem → Nat → (Nat → Int32) → (Nat → Int32) → (Nat → Int32) → (Nat → Int64) → Int32 → Int32 → Option (Int32)) (hr78 : ∀ (σ : Mem) (n : Nat) (A0 : Nat → Int32) (A1 : Nat → Int32) (A2 : Nat → Int32) (A3 : Nat → Int64) (x4 : Int32) (x7 : Int32), rl78 σ n A0 A1 A2 A3 x4 x7 = some out → JQ Y mL_law (some σ) [] [.inl (24, A0), .inl (36, A1), .inl (6, A2), .inr (3, A3)] n 78 (fun b => [(0, .ref (qb Y)), (1, .ref (xad (qX Y) 0)), (2, .ref (b 0)), (3, .ref (b 1)), (4, .int x4), (5, .ref (b 2)), (6, .ref (b 3)), (7, .int x7)]) (fun _ => [])) (σ : Mem) (n : Nat) (A0 : Nat → Int32) (A1 : Nat → Int32) (A2 : Nat → Int32) (A3 : Nat → Int64) (x4 : Int32) (x7 : Int32) (h : BL_law_78 (qL Y) (qs Y) rl78 σ n A0 A1 A2 A3 x4 x7 = some out) : JQ Y mL_law (some σ) [] [.inl (24, A0), .inl (36, A1), .inl (6, A2), .inr (3, A3)] n 78 (fun b => [(0, .ref (qb Y)), (1, .ref (xad (qX Y) 0)), (2, .ref (b 0)), (3, .ref (b 1)), (4, .int x4), (5, .ref (b 2)), (6, .ref (b 3)), (7, .int x7)]) (fun _ => []) := by
  refine q_iload 7 dL_law_78 rfl (fun _ => rfl) ?_
  refine q_if_le dL_law_80 rfl rfl h (fun c h => ?_) (fun c h => ?_)
  · refine q_iconst dL_law_188 rfl ki_0 ?_
    refine q_istoreV (fun b => [(7, .int (0 : Int32)), (0, .ref (qb Y)), (1, .ref (xad (qX Y) 0)), (2, .ref (b 0)), (3, .ref (b 1)), (4, .int x4), (5, .ref (b 2)), (6, .ref (b 3))]) dL_law_189 rfl (show 7 < 27 by decide) (fun _ => rfl) ?_
    refine q_sub [1, 2, 3, 4, 5, 6, 7, 0] (fun b => [(0, .ref (qb Y)), (1, .ref (xad (qX Y) 0)), (2, .ref (b 0)), (3, .ref (b 1)), (4, .int x4), (5, .ref (b 2)), (6, .ref (b 3)), (7, .int (0 : Int32))]) (fun _ => rfl) ?_
    exact lL_law_191 hE FU σ _ A0 A1 A2 A3 x4 (0 : Int32) h
  · refine q_iload 4 dL_law_83 rfl (fun _ => rfl) ?_
    refine q_if_le dL_law_85 rfl rfl h (fun c h => ?_) (fun c h => ?_)
    · refine q_iconst dL_law_188 rfl ki_0 ?_
      refine q_istoreV (fun b => [(7, .int (0 : Int32)), (0, .ref (qb Y)), (1, .ref (xad (qX Y) 0)), (2, .ref (b 0)), (3, .ref (b 1)), (4, .int x4), (5, .ref (b 2)), (6, .ref (b 3))]) dL_law_189 rfl (show 7 < 27 by decide) (fun _ => rfl) ?_
      refine q_sub [1, 2, 3, 4, 5, 6, 7, 0] (fun b => [(0, .ref (qb Y)), (1, .ref (xad (qX Y) 0)), (2, .ref (b 0)), (3, .ref (b 1)), (4, .int x4), (5, .ref (b 2)), (6, .ref (b 3)), (7, .int (0 : Int32))]) (fun _ => rfl) ?_
      exact lL_law_191 hE FU σ _ A0 A1 A2 A3 x4 (0 : Int32) h
    · refine q_aload_n 0 (fun _ => qb Y) dL_law_88 rfl rfl (fun _ => rfl) ?_
      refine q_bipush dL_law_89 rfl kb_7 ?_
      obtain ⟨o351, hc, h⟩ := bn_of h
      refine q_call [.inl (24, A0), .inl (36, A1), .inl (6, A2), .inr (3, A3)] 4 (fun _ => [.ref (qb Y), .int (7 : Int32)]) (fun _ => []) (coL_cell (qL Y) (qs Y) (7 : Int32) o351 hc) rfl rfl rfl ms_RL_9 (by decide) (Or.inl rfl) (fun _ => rfl) (fun _ => rfl) (fun _ => rfl) (fun _ => Nat.le_of_ble_eq_true rfl) dL_law_91 rfl ?_
      show JQ Y mL_law (some σ) [] [.inl (24, A0), .inl (36, A1), .inl (6, A2), .inr (3, A3)] _ 94 (fun b => [(0, .ref (qb Y)), (1, .ref (xad (qX Y) 0)), (2, .ref (b 0)), (3, .ref (b 1)), (4, .int x4), (5, .ref (b 2)), (6, .ref (b 3)), (7, .int x7)]) (fun _ => [.int o351])
      refine q_iconst dL_law_94 rfl ki_3 ?_
      refine q_iload 7 dL_law_95 rfl (fun _ => rfl) ?_
      refine q_imul dL_law_97 rfl ?_
      refine q_ishr dL_law_98 rfl ?_
      refine q_iload 4 dL_law_99 rfl (fun _ => rfl) ?_
      obtain ⟨o352, hc, h⟩ := bn_of h
      refine q_call [.inl (24, A0), .inl (36, A1), .inl (6, A2), .inr (3, A3)] 4 (fun _ => [.int (o351 >>> (((3 : Int32) * x7) &&& 31)), .int x4]) (fun _ => []) (coL_low (o351 >>> (((3 : Int32) * x7) &&& 31)) x4 o352 hc) rfl rfl rfl ms_RL_15 (by decide) (Or.inl rfl) (fun _ => rfl) (fun _ => rfl) (fun _ => rfl) (fun _ => Nat.le_of_ble_eq_true rfl) dL_law_101 rfl ?_
      show JQ Y mL_law (some σ) [] [.inl (24, A0), .inl (36, A1), .inl (6, A2), .inr (3, A3)] _ 104 (fun b => [(0, .ref (qb Y)), (1, .ref (xad (qX Y) 0)), (2, .ref (b 0)), (3, .ref (b 1)), (4, .int x4), (5, .ref (b 2)), (6, .ref (b 3)), (7, .int x7)]) (fun _ => [.int o352])
      refine q_istoreV (fun b => [(8, .int o352), (0, .ref (qb Y)), (1, .ref (xad (qX Y) 0)), (2, .ref (b 0)), (3, .ref (b 1)), (4, .int x4), (5, .ref (b 2)), (6, .ref (b 3)), (7, .int x7)]) dL_law_104 rfl (show 8 < 27 by decide) (fun _ => rfl) ?_
      refine q_aload 6 (fun b => b 2) dL_law_106 rfl (fun _ => rfl) ?_
      refine q_pick [0, 1, 3, 2] [.inl (24, A0), .inl (36, A1), .inr (3, A3), .inl (6, A2)] [] (fun b => [(8, .int o352), (0, .ref (qb Y)), (1, .ref (xad (qX Y) 0)), (2, .ref (b 0)), (3, .ref (b 1)), (4, .int x4), (5, .ref (b 3)), (6, .ref (b 2)), (7, .int x7)]) (fun b => [.ref (b 3)]) rfl rfl (by decide) rfl (fun _ => rfl) (fun _ => rfl) ?_
      obtain ⟨o353, hc, h⟩ := bn_of h
      refine q_callA [.inl (24, A0), .inl (36, A1), .inr (3, A3)] 3 1 4 (fun b => [.ref (b 3)]) (fun _ => []) (coL_copied A2 o353 hc) rfl rfl rfl rfl ms_RL_44 (by decide) h (fun _ => rfl) (fun _ => rfl) (fun _ => rfl) (fun _ => Nat.le_of_ble_eq_true rfl) (fun _ _ => rfl) (fun _ _ => rfl) (by decide) dL_law_108 rfl (fun h => ?_)
      show JQ Y mL_law (some σ) [] [.inl (24, A0), .inl (36, A1), .inr (3, A3), .inl (6, A2), .inl (6, o353)] _ 111 (fun b => [(8, .int o352), (0, .ref (qb Y)), (1, .ref (xad (qX Y) 0)), (2, .ref (b 0)), (3, .ref (b 1)), (4, .int x4), (5, .ref (b 3)), (6, .ref (b 2)), (7, .int x7)]) (fun b => [.ref (b 4)])
      refine q_astore (fun b => b 4) (fun b => [(9, .ref (b 4)), (8, .int o352), (0, .ref (qb Y)), (1, .ref (xad (qX Y) 0)), (2, .ref (b 0)), (3, .ref (b 1)), (4, .int x4), (5, .ref (b 3)), (6, .ref (b 2)), (7, .int x7)]) dL_law_111 rfl (show 9 < 27 by decide) (fun _ => rfl) ?_
      refine q_iconst dL_law_113 rfl ki_3 ?_
      refine q_newL 1 5 3 [.inl (24, A0), .inl (36, A1), .inr (3, A3), .inl (6, A2), .inl (6, o353), .inr (3, zL)] aw_J (by decide) (by decide) (by decide) (by decide) (by decide) rfl (fun _ _ => rfl) (fun _ _ => rfl) (by decide) rfl dL_law_114 rfl h (fun h => ?_)
      refine q_astore (fun b => b 5) (fun b => [(10, .ref (b 5)), (9, .ref (b 4)), (8, .int o352), (0, .ref (qb Y)), (1, .ref (xad (qX Y) 0)), (2, .ref (b 0)), (3, .ref (b 1)), (4, .int x4), (5, .ref (b 3)), (6, .ref (b 2)), (7, .int x7)]) dL_law_116 rfl (show 10 < 27 by decide) (fun _ => rfl) ?_
      refine q_aload 0 (fun b => b 5) dL_law_118 rfl (fun _ => rfl) ?_
      refine q_iconst dL_law_120 rfl ki_0 ?_
      refine q_aload 9 (fun b => b 2) dL_law_121 rfl (fun _ => rfl) ?_
      refine q_iconst dL_law_123 rfl ki_0 ?_
      refine q_lald 2 3 A3 rfl dL_law_124 rfl h (fun j356 h => ?_)
      refine q_last 5 3 zL (fun f357 => [.inl (24, A0), .inl (36, A1), .inr (3, A3), .inl (6, A2), .inl (6, o353), .inr (3, f357)]) rfl (fun _ => rfl) dL_law_125 rfl h (fun f357 h => ?_)
      refine q_aload_n 5 (fun b => b 0) dL_law_126 rfl rfl (fun _ => rfl) ?_
      refine q_aload_n 6 (fun b => b 1) dL_law_127 rfl rfl (fun _ => rfl) ?_
      refine q_aload 1 (fun b => b 4) dL_law_128 rfl (fun _ => rfl) ?_
      refine q_aload 0 (fun b => b 5) dL_law_130 rfl (fun _ => rfl) ?_
      refine q_iload 2 dL_law_132 rfl (fun _ => rfl) ?_
      refine q_iconst dL_law_134 rfl ki_4 ?_
      refine q_idiv dL_law_135 rfl h (fun h => ?_)
      refine q_iload 2 dL_law_136 rfl (fun _ => rfl) ?_
      refine q_iconst dL_law_138 rfl ki_4 ?_
      refine q_irem dL_law_139 rfl h (fun h => ?_)
      refine q_pick [2, 3, 0, 1, 4, 5] [.inr (3, A3), .inl (6, A2), .inl (24, A0), .inl (36, A1), .inl (6, o353), .inr (3, f357)] [] (fun b => [(10, .ref (b 5)), (9, .ref (b 4)), (8, .int o352), (0, .ref (qb Y)), (1, .ref (xad (qX Y) 0)), (2, .ref (b 2)), (3, .ref (b 3)), (4, .int x4), (5, .ref (b 1)), (6, .ref (b 0)), (7, .int x7)]) (fun b => [.int (o352 - o352 / (4 : Int32) * (4 : Int32)), .int (o352 / (4 : Int32)), .ref (b 5), .ref (b 4), .ref (b 3), .ref (b 2)]) rfl rfl (by decide) rfl (fun _ => rfl) (fun _ => rfl) ?_
      obtain ⟨o358, hc, h⟩ := bn_of h
      refine q_call [.inr (3, A3), .inl (6, A2)] 2 (fun b => [.ref (b 2), .ref (b 3), .ref (b 4), .ref (b 5), .int (o352 / (4 : Int32)), .int (o352 - o352 / (4 : Int32) * (4 : Int32))]) (fun _ => []) (coL_push A0 A1 o353 f357 (o352 / (4 : Int32)) (o352 - o352 / (4 : Int32) * (4 : Int32)) o358 hc) rfl rfl rfl ms_RL_47 (by decide) (Or.inl rfl) (fun _ => rfl) (fun _ => rfl) (fun _ => rfl) (fun _ => Nat.le_of_ble_eq_true rfl) dL_law_140 rfl ?_
      show JQ Y mL_law (some σ) [] [.inr (3, A3), .inl (6, A2), .inl (24, A0), .inl (36, A1), .inl (6, o358.2.1), .inr (3, o358.2.2)] _ 143 (fun b => [(10, .ref (b 5)), (9, .ref (b 4)), (8, .int o352), (0, .ref (qb Y)), (1, .ref (xad (qX Y) 0)), (2, .ref (b 2)), (3, .ref (b 3)), (4, .int x4), (5, .ref (b 1)), (6, .ref (b 0)), (7, .int x7)]) (fun _ => [.int o358.1])
      refine q_if_lt dL_law_143 rfl rfl h (fun c h => ?_) (fun c h => ?_)
      · refine q_iinc 10 (fun x_359 => (fun b => [(7, .int x_359), (10, .ref (b 5)), (9, .ref (b 4)), (8, .int o352), (0, .ref (qb Y)), (1, .ref (xad (qX Y) 0)), (2, .ref (b 2)), (3, .ref (b 3)), (4, .int x4), (5, .ref (b 1)), (6, .ref (b 0))])) dL_law_182 rfl (fun _ => rfl) ki_m1 (show 7 < 27 by decide) (fun _ _ => rfl) h (fun x_359 h => ?_)
        refine q_goto dL_law_185 rfl ?_
        refine q_sub [4, 5, 6, 7, 8, 9, 10, 0] (fun b => [(0, .ref (qb Y)), (1, .ref (xad (qX Y) 0)), (2, .ref (b 2)), (3, .ref (b 3)), (4, .int x4), (5, .ref (b 1)), (6, .ref (b 0)), (7, .int x_359)]) (fun _ => rfl) ?_
        refine q_pick [2, 3, 1, 0] [.inl (24, A0), .inl (36, A1), .inl (6, A2), .inr (3, A3)] [] (fun b => [(0, .ref (qb Y)), (1, .ref (xad (qX Y) 0)), (2, .ref (b 0)), (3, .ref (b 1)), (4, .int x4), (5, .ref (b 2)), (6, .ref (b 3)), (7, .int x_359)]) (fun _ => []) rfl rfl (by decide) rfl (fun _ => rfl) (fun _ => rfl) ?_
        exact hr78 σ _ A0 A1 A2 A3 x4 x_359 h
      · refine q_aload_n 4 (fun _ => xad (qX Y) 0) dL_law_146 rfl rfl (fun _ => rfl) ?_
        refine q_iload 2 dL_law_147 rfl (fun _ => rfl) ?_
        refine q_iconst dL_law_149 rfl ki_4 ?_
        refine q_idiv dL_law_150 rfl h (fun h => ?_)
        refine q_iload 2 dL_law_151 rfl (fun _ => rfl) ?_
        refine q_iconst dL_law_153 rfl ki_4 ?_
        refine q_irem dL_law_154 rfl h (fun h => ?_)
        obtain ⟨r360, σ361, hc, h⟩ := bi_of h
        refine q_callX [.int (o352 / (4 : Int32)), .int (o352 - o352 / (4 : Int32) * (4 : Int32))] [] (coX8_push σ (o352 / (4 : Int32)) (o352 - o352 / (4 : Int32) * (4 : Int32)) r360 σ361 hc) mv_RL_51 (by decide) rfl rfl (fun _ => rfl) (Nat.le_of_ble_eq_true rfl) dL_law_155 rfl ?_
        refine q_aload 1 (fun b => b 4) dL_law_158 rfl (fun _ => rfl) ?_
        refine q_iload 2 dL_law_160 rfl (fun _ => rfl) ?_
        refine q_iconst dL_law_162 rfl ki_4 ?_
        refine q_idiv dL_law_163 rfl h (fun h => ?_)
        refine q_iald 4 6 o358.2.1 rfl dL_law_164 rfl h (fun j362 h => ?_)
        refine q_icmp_eq dL_law_165 rfl rfl h (fun c h => ?_) (fun c h => ?_)
        · refine q_aload 1 (fun b => b 4) dL_law_170 rfl (fun _ => rfl) ?_
          refine q_astore (fun b => b 4) (fun b => [(5, .ref (b 4)), (10, .ref (b 5)), (9, .ref (b 4)), (8, .int o352), (0, .ref (qb Y)), (1, .ref (xad (qX Y) 0)), (2, .ref (b 2)), (3, .ref (b 3)), (4, .int x4), (6, .ref (b 0)), (7, .int x7)]) dL_law_172 rfl (show 5 < 27 by decide) (fun _ => rfl) ?_
          refine q_aload 9 (fun b => b 0) dL_law_174 rfl (fun _ => rfl) ?_
          refine q_iconst dL_law_176 rfl ki_0 ?_
          refine q_aload 1 (fun b => b 5) dL_law_177 rfl (fun _ => rfl) ?_
          refine q_iconst dL_law_179 rfl ki_0 ?_
          refine q_lald 5 3 o358.2.2 rfl dL_law_180 rfl h (fun j363 h => ?_)
          refine q_last 0 3 A3 (fun f364 => [.inr (3, f364), .inl (6, A2), .inl (24, A0), .inl (36, A1), .inl (6, o358.2.1), .inr (3, o358.2.2)]) rfl (fun _ => rfl) dL_law_181 rfl h (fun f364 h => ?_)
          refine q_iinc 10 (fun x_365 => (fun b => [(7, .int x_365), (5, .ref (b 4)), (10, .ref (b 5)), (9, .ref (b 4)), (8, .int o352), (0, .ref (qb Y)), (1, .ref (xad (qX Y) 0)), (2, .ref (b 2)), (3, .ref (b 3)), (4, .int x4), (6, .ref (b 0))])) dL_law_182 rfl (fun _ => rfl) ki_m1 (show 7 < 27 by decide) (fun _ _ => rfl) h (fun x_365 h => ?_)
          refine q_goto dL_law_185 rfl ?_
          refine q_sub [5, 6, 7, 8, 9, 1, 10, 0] (fun b => [(0, .ref (qb Y)), (1, .ref (xad (qX Y) 0)), (2, .ref (b 2)), (3, .ref (b 3)), (4, .int x4), (5, .ref (b 4)), (6, .ref (b 0)), (7, .int x_365)]) (fun _ => rfl) ?_
          refine q_pick [2, 3, 4, 0] [.inl (24, A0), .inl (36, A1), .inl (6, o358.2.1), .inr (3, f364)] [] (fun b => [(0, .ref (qb Y)), (1, .ref (xad (qX Y) 0)), (2, .ref (b 0)), (3, .ref (b 1)), (4, .int x4), (5, .ref (b 2)), (6, .ref (b 3)), (7, .int x_365)]) (fun _ => []) rfl rfl (by decide) rfl (fun _ => rfl) (fun _ => rfl) ?_
          exact hr78 σ361 _ A0 A1 o358.2.1 f364 x4 x_365 h
        · refine q_iconst dL_law_168 rfl ki_0 ?_
          refine q_sub [2, 3, 4, 7, 10] (fun _ => [(8, .int o352), (0, .ref (qb Y)), (1, .ref (xad (qX Y) 0)), (4, .int x4), (7, .int x7)]) (fun _ => rfl) ?_
          refine q_pick [] [] [] (fun _ => [(8, .int o352), (0, .ref (qb Y)), (1, .ref (xad (qX Y) 0)), (4, .int x4), (7, .int x7)]) (fun _ => [.int (0 : Int32)]) rfl rfl (by decide) rfl (fun _ => rfl) (fun _ => rfl) ?_
          cases h
          exact hE _ _ _ _ dL_law_169
noncomputable def FL_law_78 (L : Nat) (xs : Nat → Int32) (fu : Nat) : Mem → Nat → (Nat → Int32) → (Nat → Int32) → (Nat → Int32) → (Nat → Int64) → Int32 → Int32 → Option (Int32) :=
  Nat.rec (fun _ _ _ _ _ _ _ _ => none) (fun _ ih => BL_law_78 L xs ih) fu
theorem lL_law_78 {Y : QX} {out : Int32} (hE : ∀ σ2 : Mem, EndQ Y mL_law .ireturn [] (some σ2) [] (fun _ => [.int out])) : ∀ (fu : Nat) (σ : Mem) (n : Nat) (A0 : Nat → Int32) (A1 : Nat → Int32) (A2 : Nat → Int32) (A3 : Nat → Int64) (x4 : Int32) (x7 : Int32), FL_law_78 (qL Y) (qs Y) fu σ n A0 A1 A2 A3 x4 x7 = some out → JQ Y mL_law (some σ) [] [.inl (24, A0), .inl (36, A1), .inl (6, A2), .inr (3, A3)] n 78 (fun b => [(0, .ref (qb Y)), (1, .ref (xad (qX Y) 0)), (2, .ref (b 0)), (3, .ref (b 1)), (4, .int x4), (5, .ref (b 2)), (6, .ref (b 3)), (7, .int x7)]) (fun _ => []) := by
  intro fu
  induction fu with
  | zero => intro σ n A0 A1 A2 A3 x4 x7 h; exact nn h
  | succ fu ih => intro σ n A0 A1 A2 A3 x4 x7 h; exact jL_law_78 hE (FL_law_78 (qL Y) (qs Y) fu) ih σ n A0 A1 A2 A3 x4 x7 h
noncomputable def FL_law (L : Nat) (xs : Nat → Int32) (σ : Mem) (n : Nat) : Option (Int32) :=
  al 600000 n 2 fun n366 =>
  al 600000 n366 3 fun n367 =>
  bi (FX8_sheet σ (0 : Int32) (0 : Int32) (60 : Int32)) fun r368 σ369 =>
  if r368 = (1 : Int32) then
  (bn (FL_lay L xs σ369 zI zI (0 : Int32) (5 : Int32) (3 : Int32)) fun o370 =>
  rd (2 : Int32) 24 fun j371 =>
  if o370.1 = (o370.2.1 j371) then
  (rd (2 : Int32) 24 fun j372 =>
  nm ((4 : Int32) * (o370.2.1 j372)) fun x_373 =>
  bn (FL_begun o370.2.1 0) fun o374 =>
  al 600000 n367 1 fun n375 =>
  al 600000 n375 1 fun n376 =>
  bn (FL_cell L xs (7 : Int32)) fun o377 =>
  bn (FL_low o377 (3 : Int32)) fun o378 =>
  FL_law_78 L xs FU o370.2.2.2 n376 o370.2.1 o370.2.2.1 o374 zL x_373 o378)
  else
  (some (0 : Int32)))
  else
  (some (0 : Int32))
set_option maxHeartbeats 4000000 in
set_option maxRecDepth 100000 in
theorem eL_law {Y : QX} {out : Int32} (hE : ∀ σ2 : Mem, EndQ Y mL_law .ireturn [] (some σ2) [] (fun _ => [.int out])) (σ : Mem) (n : Nat) (h : FL_law (qL Y) (qs Y) σ n = some out) : JQ Y mL_law (some σ) [] [] n 8 (fun _ => [(1, .ref (xad (qX Y) 0)), (0, .ref (qb Y))]) (fun _ => []) := by
  refine q_bipush dL_law_8 rfl kb_24 ?_
  refine q_newI 2 0 24 [.inl (24, zI)] aw_I (by decide) (by decide) (by decide) (by decide) (by decide) rfl (fun _ _ => rfl) (fun _ _ => rfl) (by decide) rfl dL_law_10 rfl h (fun h => ?_)
  refine q_astore_n (fun b => b 0) (fun b => [(2, .ref (b 0)), (1, .ref (xad (qX Y) 0)), (0, .ref (qb Y))]) dL_law_12 rfl rfl (show 2 < 27 by decide) (fun _ => rfl) ?_
  refine q_bipush dL_law_13 rfl kb_36 ?_
  refine q_newI 3 1 36 [.inl (24, zI), .inl (36, zI)] aw_I (by decide) (by decide) (by decide) (by decide) (by decide) rfl (fun _ _ => rfl) (fun _ _ => rfl) (by decide) rfl dL_law_15 rfl h (fun h => ?_)
  refine q_astore_n (fun b => b 1) (fun b => [(3, .ref (b 1)), (2, .ref (b 0)), (1, .ref (xad (qX Y) 0)), (0, .ref (qb Y))]) dL_law_17 rfl rfl (show 3 < 27 by decide) (fun _ => rfl) ?_
  refine q_aload_n 2 (fun _ => xad (qX Y) 0) dL_law_18 rfl rfl (fun _ => rfl) ?_
  refine q_iconst dL_law_19 rfl ki_0 ?_
  refine q_iconst dL_law_20 rfl ki_0 ?_
  refine q_bipush dL_law_21 rfl kb_60 ?_
  obtain ⟨r368, σ369, hc, h⟩ := bi_of h
  refine q_callX [.int (0 : Int32), .int (0 : Int32), .int (60 : Int32)] [] (coX8_sheet σ (0 : Int32) (0 : Int32) (60 : Int32) r368 σ369 hc) mv_RL_33 (by decide) rfl rfl (fun _ => rfl) (Nat.le_of_ble_eq_true rfl) dL_law_23 rfl ?_
  refine q_iconst dL_law_26 rfl ki_1 ?_
  refine q_icmp_ne dL_law_27 rfl rfl h (fun c h => ?_) (fun c h => ?_)
  · refine q_iconst dL_law_46 rfl ki_0 ?_
    refine q_sub [2, 3] (fun _ => [(1, .ref (xad (qX Y) 0)), (0, .ref (qb Y))]) (fun _ => rfl) ?_
    refine q_pick [] [] [] (fun _ => [(1, .ref (xad (qX Y) 0)), (0, .ref (qb Y))]) (fun _ => [.int (0 : Int32)]) rfl rfl (by decide) rfl (fun _ => rfl) (fun _ => rfl) ?_
    cases h
    exact hE _ _ _ _ dL_law_47
  · refine q_aload_n 2 (fun _ => xad (qX Y) 0) dL_law_30 rfl rfl (fun _ => rfl) ?_
    refine q_aload_n 1 (fun b => b 0) dL_law_31 rfl rfl (fun _ => rfl) ?_
    refine q_aload_n 0 (fun b => b 1) dL_law_32 rfl rfl (fun _ => rfl) ?_
    refine q_aload_n 3 (fun _ => qb Y) dL_law_33 rfl rfl (fun _ => rfl) ?_
    refine q_iconst dL_law_34 rfl ki_0 ?_
    refine q_iconst dL_law_35 rfl ki_5 ?_
    refine q_iconst dL_law_36 rfl ki_3 ?_
    obtain ⟨o370, hc, h⟩ := bn_of h
    refine q_callL (fun b => [.ref (xad (qX Y) 0), .ref (b 0), .ref (b 1), .ref (qb Y), .int (0 : Int32), .int (5 : Int32), .int (3 : Int32)]) (fun _ => []) (coL_lay (qL Y) (qs Y) σ369 zI zI (0 : Int32) (5 : Int32) (3 : Int32) o370 hc) rfl ms_RL_36 (by decide) (fun _ => rfl) (fun _ => rfl) (fun _ => rfl) (fun _ => Nat.le_of_ble_eq_true rfl) dL_law_37 rfl ?_
    refine q_aload_n 1 (fun b => b 0) dL_law_40 rfl rfl (fun _ => rfl) ?_
    refine q_iconst dL_law_41 rfl ki_2 ?_
    refine q_iald 0 24 o370.2.1 rfl dL_law_42 rfl h (fun j371 h => ?_)
    refine q_icmp_eq dL_law_43 rfl rfl h (fun c h => ?_) (fun c h => ?_)
    · refine q_iconst dL_law_48 rfl ki_4 ?_
      refine q_aload_n 1 (fun b => b 0) dL_law_49 rfl rfl (fun _ => rfl) ?_
      refine q_iconst dL_law_50 rfl ki_2 ?_
      refine q_iald 0 24 o370.2.1 rfl dL_law_51 rfl h (fun j372 h => ?_)
      refine q_imul dL_law_52 rfl ?_
      refine q_istore (fun x_373 => (fun b => [(4, .int x_373), (3, .ref (b 1)), (2, .ref (b 0)), (1, .ref (xad (qX Y) 0)), (0, .ref (qb Y))])) dL_law_53 rfl (show 4 < 27 by decide) (fun _ _ => rfl) h (fun x_373 h => ?_)
      refine q_aload_n 2 (fun b => b 0) dL_law_55 rfl rfl (fun _ => rfl) ?_
      refine q_pick [1, 0] [.inl (36, o370.2.2.1), .inl (24, o370.2.1)] [] (fun b => [(4, .int x_373), (3, .ref (b 0)), (2, .ref (b 1)), (1, .ref (xad (qX Y) 0)), (0, .ref (qb Y))]) (fun b => [.ref (b 1)]) rfl rfl (by decide) rfl (fun _ => rfl) (fun _ => rfl) ?_
      obtain ⟨o374, hc, h⟩ := bn_of h
      refine q_callA [.inl (36, o370.2.2.1)] 1 1 2 (fun b => [.ref (b 1)]) (fun _ => []) (coL_begun o370.2.1 o374 hc) rfl rfl rfl rfl ms_RL_40 (by decide) h (fun _ => rfl) (fun _ => rfl) (fun _ => rfl) (fun _ => Nat.le_of_ble_eq_true rfl) (fun _ _ => rfl) (fun _ _ => rfl) (by decide) dL_law_56 rfl (fun h => ?_)
      show JQ Y mL_law (some o370.2.2.2) [] [.inl (36, o370.2.2.1), .inl (24, o370.2.1), .inl (6, o374)] _ 59 (fun b => [(4, .int x_373), (3, .ref (b 0)), (2, .ref (b 1)), (1, .ref (xad (qX Y) 0)), (0, .ref (qb Y))]) (fun b => [.ref (b 2)])
      refine q_astore (fun b => b 2) (fun b => [(5, .ref (b 2)), (4, .int x_373), (3, .ref (b 0)), (2, .ref (b 1)), (1, .ref (xad (qX Y) 0)), (0, .ref (qb Y))]) dL_law_59 rfl (show 5 < 27 by decide) (fun _ => rfl) ?_
      refine q_iconst dL_law_61 rfl ki_3 ?_
      refine q_newL 1 3 3 [.inl (36, o370.2.2.1), .inl (24, o370.2.1), .inl (6, o374), .inr (3, zL)] aw_J (by decide) (by decide) (by decide) (by decide) (by decide) rfl (fun _ _ => rfl) (fun _ _ => rfl) (by decide) rfl dL_law_62 rfl h (fun h => ?_)
      refine q_astore (fun b => b 3) (fun b => [(6, .ref (b 3)), (5, .ref (b 2)), (4, .int x_373), (3, .ref (b 0)), (2, .ref (b 1)), (1, .ref (xad (qX Y) 0)), (0, .ref (qb Y))]) dL_law_64 rfl (show 6 < 27 by decide) (fun _ => rfl) ?_
      refine q_aload_n 6 (fun _ => qb Y) dL_law_66 rfl rfl (fun _ => rfl) ?_
      refine q_bipush dL_law_67 rfl kb_7 ?_
      obtain ⟨o377, hc, h⟩ := bn_of h
      refine q_call [.inl (36, o370.2.2.1), .inl (24, o370.2.1), .inl (6, o374), .inr (3, zL)] 4 (fun _ => [.ref (qb Y), .int (7 : Int32)]) (fun _ => []) (coL_cell (qL Y) (qs Y) (7 : Int32) o377 hc) rfl rfl rfl ms_RL_9 (by decide) (Or.inl rfl) (fun _ => rfl) (fun _ => rfl) (fun _ => rfl) (fun _ => Nat.le_of_ble_eq_true rfl) dL_law_69 rfl ?_
      show JQ Y mL_law (some o370.2.2.2) [] [.inl (36, o370.2.2.1), .inl (24, o370.2.1), .inl (6, o374), .inr (3, zL)] _ 72 (fun b => [(6, .ref (b 3)), (5, .ref (b 2)), (4, .int x_373), (3, .ref (b 0)), (2, .ref (b 1)), (1, .ref (xad (qX Y) 0)), (0, .ref (qb Y))]) (fun _ => [.int o377])
      refine q_iconst dL_law_72 rfl ki_3 ?_
      obtain ⟨o378, hc, h⟩ := bn_of h
      refine q_call [.inl (36, o370.2.2.1), .inl (24, o370.2.1), .inl (6, o374), .inr (3, zL)] 4 (fun _ => [.int o377, .int (3 : Int32)]) (fun _ => []) (coL_low o377 (3 : Int32) o378 hc) rfl rfl rfl ms_RL_15 (by decide) (Or.inl rfl) (fun _ => rfl) (fun _ => rfl) (fun _ => rfl) (fun _ => Nat.le_of_ble_eq_true rfl) dL_law_73 rfl ?_
      show JQ Y mL_law (some o370.2.2.2) [] [.inl (36, o370.2.2.1), .inl (24, o370.2.1), .inl (6, o374), .inr (3, zL)] _ 76 (fun b => [(6, .ref (b 3)), (5, .ref (b 2)), (4, .int x_373), (3, .ref (b 0)), (2, .ref (b 1)), (1, .ref (xad (qX Y) 0)), (0, .ref (qb Y))]) (fun _ => [.int o378])
      refine q_istoreV (fun b => [(7, .int o378), (6, .ref (b 3)), (5, .ref (b 2)), (4, .int x_373), (3, .ref (b 0)), (2, .ref (b 1)), (1, .ref (xad (qX Y) 0)), (0, .ref (qb Y))]) dL_law_76 rfl (show 7 < 27 by decide) (fun _ => rfl) ?_
      refine q_sub [7, 6, 5, 4, 3, 2, 1, 0] (fun b => [(0, .ref (qb Y)), (1, .ref (xad (qX Y) 0)), (2, .ref (b 1)), (3, .ref (b 0)), (4, .int x_373), (5, .ref (b 2)), (6, .ref (b 3)), (7, .int o378)]) (fun _ => rfl) ?_
      refine q_pick [1, 0, 2, 3] [.inl (24, o370.2.1), .inl (36, o370.2.2.1), .inl (6, o374), .inr (3, zL)] [] (fun b => [(0, .ref (qb Y)), (1, .ref (xad (qX Y) 0)), (2, .ref (b 0)), (3, .ref (b 1)), (4, .int x_373), (5, .ref (b 2)), (6, .ref (b 3)), (7, .int o378)]) (fun _ => []) rfl rfl (by decide) rfl (fun _ => rfl) (fun _ => rfl) ?_
      exact lL_law_78 hE FU o370.2.2.2 _ o370.2.1 o370.2.2.1 o374 zL x_373 o378 h
    · refine q_iconst dL_law_46 rfl ki_0 ?_
      refine q_sub [2, 3] (fun _ => [(1, .ref (xad (qX Y) 0)), (0, .ref (qb Y))]) (fun _ => rfl) ?_
      refine q_pick [] [] [] (fun _ => [(1, .ref (xad (qX Y) 0)), (0, .ref (qb Y))]) (fun _ => [.int (0 : Int32)]) rfl rfl (by decide) rfl (fun _ => rfl) (fun _ => rfl) ?_
      cases h
      exact hE _ _ _ _ dL_law_47

-- wins
abbrev mL_wins : MQD := (cL_wins, 11, (some .boolean), 4, 60)
noncomputable def BL_wins_40 (yy : Nat → Int32) (gg : Nat → Int32) (ll : Nat → Int32) (rl40 : Nat → (Nat → Int32) → (Nat → Int64) → Int32 → Int32 → Int32 → Option (Int32)) (n : Nat) (A3 : Nat → Int32) (A4 : Nat → Int64) (x6 : Int32) (x9 : Int32) (x10 : Int32) : Option (Int32) :=
  rd (2 : Int32) 24 fun j13 =>
  if ((4 : Int32) * (yy j13)) ≤ x10 then
  (some x9)
  else
  (if x9 = 0 then
  (rd (0 : Int32) 3 fun j15 =>
  al 60 n 2 fun n17 =>
  bn (FL_outcome yy gg A3 0 (A4 j15) x10 x6 (1 : Int32)) fun o16 =>
  if o16 = (1 : Int32) then
  (nm (x10 + (1 : Int32)) fun x_19 =>
  rl40 n17 A3 A4 x6 (1 : Int32) x_19)
  else
  (nm (x10 + (1 : Int32)) fun x_18 =>
  rl40 n17 A3 A4 x6 (0 : Int32) x_18))
  else
  (nm (x10 + (1 : Int32)) fun x_14 =>
  rl40 n A3 A4 x6 (1 : Int32) x_14))
set_option maxHeartbeats 4000000 in
set_option maxRecDepth 100000 in
theorem jL_wins_40 {Y : QX} {out : Int32} (yy : Nat → Int32) (gg : Nat → Int32) (ll : Nat → Int32) (hE : EndQ Y mL_wins .ireturn [0, 1, 2] none [.inl (24, yy), .inl (36, gg), .inl (6, ll)] (fun _ => [.int out])) (rl40 : Nat → (Nat → Int32) → (Nat → Int64) → Int32 → Int32 → Int32 → Option (Int32)) (hr40 : ∀ (n : Nat) (A3 : Nat → Int32) (A4 : Nat → Int64) (x6 : Int32) (x9 : Int32) (x10 : Int32), rl40 n A3 A4 x6 x9 x10 = some out → JQ Y mL_wins (none) [0, 1, 2] [.inl (24, yy), .inl (36, gg), .inl (6, ll), .inl (6, A3), .inr (3, A4)] n 40 (fun b => [(0, .ref (b 0)), (1, .ref (b 1)), (6, .int x6), (7, .ref (b 3)), (8, .ref (b 4)), (9, .int x9), (10, .int x10)]) (fun _ => [])) (n : Nat) (A3 : Nat → Int32) (A4 : Nat → Int64) (x6 : Int32) (x9 : Int32) (x10 : Int32) (h : BL_wins_40 yy gg ll rl40 n A3 A4 x6 x9 x10 = some out) : JQ Y mL_wins (none) [0, 1, 2] [.inl (24, yy), .inl (36, gg), .inl (6, ll), .inl (6, A3), .inr (3, A4)] n 40 (fun b => [(0, .ref (b 0)), (1, .ref (b 1)), (6, .int x6), (7, .ref (b 3)), (8, .ref (b 4)), (9, .int x9), (10, .int x10)]) (fun _ => []) := by
  refine q_iload 6 dL_wins_40 rfl (fun _ => rfl) ?_
  refine q_iconst dL_wins_42 rfl ki_4 ?_
  refine q_aload_n 0 (fun b => b 0) dL_wins_43 rfl rfl (fun _ => rfl) ?_
  refine q_iconst dL_wins_44 rfl ki_2 ?_
  refine q_iald 0 24 yy rfl dL_wins_45 rfl h (fun j13 h => ?_)
  refine q_imul dL_wins_46 rfl ?_
  refine q_icmp_ge dL_wins_47 rfl rfl h (fun c h => ?_) (fun c h => ?_)
  · refine q_iload 5 dL_wins_88 rfl (fun _ => rfl) ?_
    refine q_sub [0, 1, 2, 5, 6] (fun b => [(0, .ref (b 0)), (1, .ref (b 1)), (6, .int x6), (9, .int x9), (10, .int x10)]) (fun _ => rfl) ?_
    refine q_pick [0, 1, 2] [.inl (24, yy), .inl (36, gg), .inl (6, ll)] [0, 1, 2] (fun b => [(0, .ref (b 0)), (1, .ref (b 1)), (6, .int x6), (9, .int x9), (10, .int x10)]) (fun _ => [.int x9]) rfl rfl (by decide) rfl (fun _ => rfl) (fun _ => rfl) ?_
    cases h
    exact hE _ _ _ dL_wins_90
  · refine q_iload 5 dL_wins_50 rfl (fun _ => rfl) ?_
    refine q_if_ne dL_wins_52 rfl rfl h (fun c h => ?_) (fun c h => ?_)
    · refine q_iconst dL_wins_75 rfl ki_1 ?_
      refine q_goto dL_wins_76 rfl ?_
      refine q_istoreV (fun b => [(9, .int (1 : Int32)), (0, .ref (b 0)), (1, .ref (b 1)), (6, .int x6), (7, .ref (b 3)), (8, .ref (b 4)), (10, .int x10)]) dL_wins_80 rfl (show 9 < 11 by decide) (fun _ => rfl) ?_
      refine q_iinc 6 (fun x_14 => (fun b => [(10, .int x_14), (9, .int (1 : Int32)), (0, .ref (b 0)), (1, .ref (b 1)), (6, .int x6), (7, .ref (b 3)), (8, .ref (b 4))])) dL_wins_82 rfl (fun _ => rfl) ki_1 (show 10 < 11 by decide) (fun _ _ => rfl) h (fun x_14 h => ?_)
      refine q_goto dL_wins_85 rfl ?_
      refine q_sub [2, 3, 4, 5, 6, 1, 0] (fun b => [(0, .ref (b 0)), (1, .ref (b 1)), (6, .int x6), (7, .ref (b 3)), (8, .ref (b 4)), (9, .int (1 : Int32)), (10, .int x_14)]) (fun _ => rfl) ?_
      exact hr40 _ A3 A4 x6 (1 : Int32) x_14 h
    · refine q_aload_n 0 (fun b => b 0) dL_wins_55 rfl rfl (fun _ => rfl) ?_
      refine q_aload_n 1 (fun b => b 1) dL_wins_56 rfl rfl (fun _ => rfl) ?_
      refine q_aload 3 (fun b => b 3) dL_wins_57 rfl (fun _ => rfl) ?_
      refine q_aload 4 (fun b => b 4) dL_wins_59 rfl (fun _ => rfl) ?_
      refine q_iconst dL_wins_61 rfl ki_0 ?_
      refine q_lald 4 3 A4 rfl dL_wins_62 rfl h (fun j15 h => ?_)
      refine q_iload 6 dL_wins_63 rfl (fun _ => rfl) ?_
      refine q_iload 2 dL_wins_65 rfl (fun _ => rfl) ?_
      refine q_iconst dL_wins_67 rfl ki_1 ?_
      refine q_pick [2, 4, 0, 1, 3] [.inl (6, ll), .inr (3, A4), .inl (24, yy), .inl (36, gg), .inl (6, A3)] [2, 3, 0] (fun b => [(0, .ref (b 2)), (1, .ref (b 3)), (6, .int x6), (7, .ref (b 4)), (8, .ref (b 1)), (9, .int x9), (10, .int x10)]) (fun b => [.int (1 : Int32), .int x6, .int x10, .long (A4 j15), .ref (b 4), .ref (b 3), .ref (b 2)]) rfl rfl (by decide) rfl (fun _ => rfl) (fun _ => rfl) ?_
      obtain ⟨hN, h⟩ := al_of h
      obtain ⟨o16, hc, h⟩ := bn_of h
      refine q_call [.inl (6, ll), .inr (3, A4)] 2 (fun b => [.ref (b 2), .ref (b 3), .ref (b 4), .long (A4 j15), .int x10, .int x6, .int (1 : Int32)]) (fun _ => []) (coL_outcome yy gg A3 (A4 j15) x10 x6 (1 : Int32) o16 hc) rfl rfl rfl ms_RL_56 (by decide) (Or.inr hN) (fun _ => rfl) (fun _ => rfl) (fun _ => rfl) (fun _ => Nat.le_of_ble_eq_true rfl) dL_wins_68 rfl ?_
      show JQ Y mL_wins (none) [2, 3, 0] [.inl (6, ll), .inr (3, A4), .inl (24, yy), .inl (36, gg), .inl (6, A3)] _ 71 (fun b => [(0, .ref (b 2)), (1, .ref (b 3)), (6, .int x6), (7, .ref (b 4)), (8, .ref (b 1)), (9, .int x9), (10, .int x10)]) (fun _ => [.int o16])
      refine q_iconst dL_wins_71 rfl ki_1 ?_
      refine q_icmp_ne dL_wins_72 rfl rfl h (fun c h => ?_) (fun c h => ?_)
      · refine q_iconst dL_wins_79 rfl ki_0 ?_
        refine q_istoreV (fun b => [(9, .int (0 : Int32)), (0, .ref (b 2)), (1, .ref (b 3)), (6, .int x6), (7, .ref (b 4)), (8, .ref (b 1)), (10, .int x10)]) dL_wins_80 rfl (show 9 < 11 by decide) (fun _ => rfl) ?_
        refine q_iinc 6 (fun x_18 => (fun b => [(10, .int x_18), (9, .int (0 : Int32)), (0, .ref (b 2)), (1, .ref (b 3)), (6, .int x6), (7, .ref (b 4)), (8, .ref (b 1))])) dL_wins_82 rfl (fun _ => rfl) ki_1 (show 10 < 11 by decide) (fun _ _ => rfl) h (fun x_18 h => ?_)
        refine q_goto dL_wins_85 rfl ?_
        refine q_sub [2, 3, 4, 5, 6, 1, 0] (fun b => [(0, .ref (b 2)), (1, .ref (b 3)), (6, .int x6), (7, .ref (b 4)), (8, .ref (b 1)), (9, .int (0 : Int32)), (10, .int x_18)]) (fun _ => rfl) ?_
        refine q_pick [2, 3, 0, 4, 1] [.inl (24, yy), .inl (36, gg), .inl (6, ll), .inl (6, A3), .inr (3, A4)] [0, 1, 2] (fun b => [(0, .ref (b 0)), (1, .ref (b 1)), (6, .int x6), (7, .ref (b 3)), (8, .ref (b 4)), (9, .int (0 : Int32)), (10, .int x_18)]) (fun _ => []) rfl rfl (by decide) rfl (fun _ => rfl) (fun _ => rfl) ?_
        exact hr40 _ A3 A4 x6 (0 : Int32) x_18 h
      · refine q_iconst dL_wins_75 rfl ki_1 ?_
        refine q_goto dL_wins_76 rfl ?_
        refine q_istoreV (fun b => [(9, .int (1 : Int32)), (0, .ref (b 2)), (1, .ref (b 3)), (6, .int x6), (7, .ref (b 4)), (8, .ref (b 1)), (10, .int x10)]) dL_wins_80 rfl (show 9 < 11 by decide) (fun _ => rfl) ?_
        refine q_iinc 6 (fun x_19 => (fun b => [(10, .int x_19), (9, .int (1 : Int32)), (0, .ref (b 2)), (1, .ref (b 3)), (6, .int x6), (7, .ref (b 4)), (8, .ref (b 1))])) dL_wins_82 rfl (fun _ => rfl) ki_1 (show 10 < 11 by decide) (fun _ _ => rfl) h (fun x_19 h => ?_)
        refine q_goto dL_wins_85 rfl ?_
        refine q_sub [2, 3, 4, 5, 6, 1, 0] (fun b => [(0, .ref (b 2)), (1, .ref (b 3)), (6, .int x6), (7, .ref (b 4)), (8, .ref (b 1)), (9, .int (1 : Int32)), (10, .int x_19)]) (fun _ => rfl) ?_
        refine q_pick [2, 3, 0, 4, 1] [.inl (24, yy), .inl (36, gg), .inl (6, ll), .inl (6, A3), .inr (3, A4)] [0, 1, 2] (fun b => [(0, .ref (b 0)), (1, .ref (b 1)), (6, .int x6), (7, .ref (b 3)), (8, .ref (b 4)), (9, .int (1 : Int32)), (10, .int x_19)]) (fun _ => []) rfl rfl (by decide) rfl (fun _ => rfl) (fun _ => rfl) ?_
        exact hr40 _ A3 A4 x6 (1 : Int32) x_19 h
noncomputable def FL_wins_40 (yy : Nat → Int32) (gg : Nat → Int32) (ll : Nat → Int32) (fu : Nat) : Nat → (Nat → Int32) → (Nat → Int64) → Int32 → Int32 → Int32 → Option (Int32) :=
  Nat.rec (fun _ _ _ _ _ _ => none) (fun _ ih => BL_wins_40 yy gg ll ih) fu
theorem lL_wins_40 {Y : QX} {out : Int32} (yy : Nat → Int32) (gg : Nat → Int32) (ll : Nat → Int32) (hE : EndQ Y mL_wins .ireturn [0, 1, 2] none [.inl (24, yy), .inl (36, gg), .inl (6, ll)] (fun _ => [.int out])) : ∀ (fu : Nat) (n : Nat) (A3 : Nat → Int32) (A4 : Nat → Int64) (x6 : Int32) (x9 : Int32) (x10 : Int32), FL_wins_40 yy gg ll fu n A3 A4 x6 x9 x10 = some out → JQ Y mL_wins (none) [0, 1, 2] [.inl (24, yy), .inl (36, gg), .inl (6, ll), .inl (6, A3), .inr (3, A4)] n 40 (fun b => [(0, .ref (b 0)), (1, .ref (b 1)), (6, .int x6), (7, .ref (b 3)), (8, .ref (b 4)), (9, .int x9), (10, .int x10)]) (fun _ => []) := by
  intro fu
  induction fu with
  | zero => intro n A3 A4 x6 x9 x10 h; exact nn h
  | succ fu ih => intro n A3 A4 x6 x9 x10 h; exact jL_wins_40 yy gg ll hE (FL_wins_40 yy gg ll fu) ih n A3 A4 x6 x9 x10 h
noncomputable def FL_wins (yy : Nat → Int32) (gg : Nat → Int32) (ll : Nat → Int32) (n : Nat) (a3 : Int64) (a5 : Int32) (a6 : Int32) : Option (Int32) :=
  bn (FL_copied ll 0) fun o20 =>
  al 60 n 1 fun n21 =>
  al 60 n21 1 fun n22 =>
  stB (0 : Int32) 3 zL a3 fun f23 =>
  dzI (4 : Int32) <|
  dzI (4 : Int32) <|
  bn (FL_push yy gg o20 f23 (a5 / (4 : Int32)) (a5 - a5 / (4 : Int32) * (4 : Int32))) fun o24 =>
  FL_wins_40 yy gg ll FU n22 o24.2.1 o24.2.2 a6 (0 : Int32) (0 : Int32)
set_option maxHeartbeats 4000000 in
set_option maxRecDepth 100000 in
theorem eL_wins {Y : QX} {out : Int32} (yy : Nat → Int32) (gg : Nat → Int32) (ll : Nat → Int32) (hE : EndQ Y mL_wins .ireturn [0, 1, 2] none [.inl (24, yy), .inl (36, gg), .inl (6, ll)] (fun _ => [.int out])) (n : Nat) (a3 : Int64) (a5 : Int32) (a6 : Int32) (h : FL_wins yy gg ll n a3 a5 a6 = some out) : JQ Y mL_wins (none) [0, 1, 2] [.inl (24, yy), .inl (36, gg), .inl (6, ll)] n 0 (fun b => [(0, .ref (b 0)), (1, .ref (b 1)), (2, .ref (b 2)), (3, .long a3), (5, .int a5), (6, .int a6)]) (fun _ => []) := by
  refine q_aload_n 2 (fun b => b 2) dL_wins_0 rfl rfl (fun _ => rfl) ?_
  obtain ⟨o20, hc, h⟩ := bn_of h
  refine q_callA [.inl (24, yy), .inl (36, gg)] 2 1 3 (fun b => [.ref (b 2)]) (fun _ => []) (coL_copied ll o20 hc) rfl rfl rfl rfl ms_RL_44 (by decide) h (fun _ => rfl) (fun _ => rfl) (fun _ => rfl) (fun _ => Nat.le_of_ble_eq_true rfl) (fun _ _ => rfl) (fun _ _ => rfl) (by decide) dL_wins_1 rfl (fun h => ?_)
  show JQ Y mL_wins (none) [0, 1, 2] [.inl (24, yy), .inl (36, gg), .inl (6, ll), .inl (6, o20)] _ 4 (fun b => [(0, .ref (b 0)), (1, .ref (b 1)), (2, .ref (b 2)), (3, .long a3), (5, .int a5), (6, .int a6)]) (fun b => [.ref (b 3)])
  refine q_astore (fun b => b 3) (fun b => [(7, .ref (b 3)), (0, .ref (b 0)), (1, .ref (b 1)), (2, .ref (b 2)), (3, .long a3), (5, .int a5), (6, .int a6)]) dL_wins_4 rfl (show 7 < 11 by decide) (fun _ => rfl) ?_
  refine q_iconst dL_wins_6 rfl ki_3 ?_
  refine q_newL 1 4 3 [.inl (24, yy), .inl (36, gg), .inl (6, ll), .inl (6, o20), .inr (3, zL)] aw_J (by decide) (by decide) (by decide) (by decide) (by decide) rfl (fun _ _ => rfl) (fun _ _ => rfl) (by decide) rfl dL_wins_7 rfl h (fun h => ?_)
  refine q_astore (fun b => b 4) (fun b => [(8, .ref (b 4)), (7, .ref (b 3)), (0, .ref (b 0)), (1, .ref (b 1)), (2, .ref (b 2)), (3, .long a3), (5, .int a5), (6, .int a6)]) dL_wins_9 rfl (show 8 < 11 by decide) (fun _ => rfl) ?_
  refine q_aload 0 (fun b => b 4) dL_wins_11 rfl (fun _ => rfl) ?_
  refine q_iconst dL_wins_13 rfl ki_0 ?_
  refine q_lload_n 5 dL_wins_14 rfl rfl (fun _ => rfl) ?_
  refine q_last 4 3 zL (fun f23 => [.inl (24, yy), .inl (36, gg), .inl (6, ll), .inl (6, o20), .inr (3, f23)]) rfl (fun _ => rfl) dL_wins_15 rfl h (fun f23 h => ?_)
  refine q_aload_n 2 (fun b => b 0) dL_wins_16 rfl rfl (fun _ => rfl) ?_
  refine q_aload_n 3 (fun b => b 1) dL_wins_17 rfl rfl (fun _ => rfl) ?_
  refine q_aload 1 (fun b => b 3) dL_wins_18 rfl (fun _ => rfl) ?_
  refine q_aload 0 (fun b => b 4) dL_wins_20 rfl (fun _ => rfl) ?_
  refine q_iload 6 dL_wins_22 rfl (fun _ => rfl) ?_
  refine q_iconst dL_wins_24 rfl ki_4 ?_
  refine q_idiv dL_wins_25 rfl h (fun h => ?_)
  refine q_iload 6 dL_wins_26 rfl (fun _ => rfl) ?_
  refine q_iconst dL_wins_28 rfl ki_4 ?_
  refine q_irem dL_wins_29 rfl h (fun h => ?_)
  refine q_pick [2, 0, 1, 3, 4] [.inl (6, ll), .inl (24, yy), .inl (36, gg), .inl (6, o20), .inr (3, f23)] [1, 2, 0] (fun b => [(8, .ref (b 4)), (7, .ref (b 3)), (0, .ref (b 1)), (1, .ref (b 2)), (2, .ref (b 0)), (3, .long a3), (5, .int a5), (6, .int a6)]) (fun b => [.int (a5 - a5 / (4 : Int32) * (4 : Int32)), .int (a5 / (4 : Int32)), .ref (b 4), .ref (b 3), .ref (b 2), .ref (b 1)]) rfl rfl (by decide) rfl (fun _ => rfl) (fun _ => rfl) ?_
  obtain ⟨o24, hc, h⟩ := bn_of h
  refine q_call [.inl (6, ll)] 1 (fun b => [.ref (b 1), .ref (b 2), .ref (b 3), .ref (b 4), .int (a5 / (4 : Int32)), .int (a5 - a5 / (4 : Int32) * (4 : Int32))]) (fun _ => []) (coL_push yy gg o20 f23 (a5 / (4 : Int32)) (a5 - a5 / (4 : Int32) * (4 : Int32)) o24 hc) rfl rfl rfl ms_RL_47 (by decide) (Or.inl rfl) (fun _ => rfl) (fun _ => rfl) (fun _ => rfl) (fun _ => Nat.le_of_ble_eq_true rfl) dL_wins_30 rfl ?_
  show JQ Y mL_wins (none) [1, 2, 0] [.inl (6, ll), .inl (24, yy), .inl (36, gg), .inl (6, o24.2.1), .inr (3, o24.2.2)] _ 33 (fun b => [(8, .ref (b 4)), (7, .ref (b 3)), (0, .ref (b 1)), (1, .ref (b 2)), (2, .ref (b 0)), (3, .long a3), (5, .int a5), (6, .int a6)]) (fun _ => [.int o24.1])
  refine q_pop (v := fun b => .int o24.1) dL_wins_33 rfl (fun _ => rfl) ?_
  refine q_iconst dL_wins_34 rfl ki_0 ?_
  refine q_istoreV (fun b => [(9, .int (0 : Int32)), (8, .ref (b 4)), (7, .ref (b 3)), (0, .ref (b 1)), (1, .ref (b 2)), (2, .ref (b 0)), (3, .long a3), (5, .int a5), (6, .int a6)]) dL_wins_35 rfl (show 9 < 11 by decide) (fun _ => rfl) ?_
  refine q_iconst dL_wins_37 rfl ki_0 ?_
  refine q_istoreV (fun b => [(10, .int (0 : Int32)), (9, .int (0 : Int32)), (8, .ref (b 4)), (7, .ref (b 3)), (0, .ref (b 1)), (1, .ref (b 2)), (2, .ref (b 0)), (3, .long a3), (5, .int a5), (6, .int a6)]) dL_wins_38 rfl (show 10 < 11 by decide) (fun _ => rfl) ?_
  refine q_sub [4, 5, 9, 3, 2, 1, 0] (fun b => [(0, .ref (b 1)), (1, .ref (b 2)), (6, .int a6), (7, .ref (b 3)), (8, .ref (b 4)), (9, .int (0 : Int32)), (10, .int (0 : Int32))]) (fun _ => rfl) ?_
  refine q_pick [1, 2, 0, 3, 4] [.inl (24, yy), .inl (36, gg), .inl (6, ll), .inl (6, o24.2.1), .inr (3, o24.2.2)] [0, 1, 2] (fun b => [(0, .ref (b 0)), (1, .ref (b 1)), (6, .int a6), (7, .ref (b 3)), (8, .ref (b 4)), (9, .int (0 : Int32)), (10, .int (0 : Int32))]) (fun _ => []) rfl rfl (by decide) rfl (fun _ => rfl) (fun _ => rfl) ?_
  exact lL_wins_40 yy gg ll hE FU _ o24.2.1 o24.2.2 a6 (0 : Int32) (0 : Int32) h
theorem coL_wins {L : Nat} {xs : Nat → Int32} (yy : Nat → Int32) (gg : Nat → Int32) (ll : Nat → Int32) (a3 : Int64) (a5 : Int32) (a6 : Int32) (o : Int32) (h : FL_wins yy gg ll 0 a3 a5 a6 = some o) (hz : o = 0 ∨ o = 1) : ConQ .ireturn 4 60 yL_wins cL_wins 11 (some .boolean) L xs (fun b ad b0 => [.ref (b 0), .ref (b 1), .ref (b 2), .long a3, .int a5, .int a6]) [.inl (24, yy), .inl (36, gg), .inl (6, ll)] none (fun _ => .int o) [.inl (24, yy), .inl (36, gg), .inl (6, ll)] none :=
  conQ_of (by decide +kernel) rfl (fun _ _ _ => Nat.le_of_ble_eq_true rfl) (Or.inl ⟨rfl, Or.inr ⟨rfl, fun _ => hz.imp (fun z => congrArg Value.int z) (fun z => congrArg Value.int z)⟩⟩) (fun Y hL hx hE => by
    subst hL; subst hx
    exact eL_wins yy gg ll hE 0 a3 a5 a6 h)
-- forced
abbrev mL_forced : MQD := (cL_forced, 14, (some .boolean), 5, 1000)
noncomputable def BL_forced_152 (yy : Nat → Int32) (gg : Nat → Int32) (ll : Nat → Int32) (rl152 : Nat → (Nat → Int32) → (Nat → Int64) → Int32 → Int32 → Int32 → Int32 → Int32 → Option (Int32)) (n : Nat) (A3 : Nat → Int32) (A4 : Nat → Int64) (x6 : Int32) (x7 : Int32) (x8 : Int32) (x12 : Int32) (x13 : Int32) : Option (Int32) :=
  if x8 ≤ x13 then
  (some x12)
  else
  (if x7 ≤ (2 : Int32) then
  (some x12)
  else
  (if x12 = 0 then
  (rd (0 : Int32) 3 fun j23 =>
  al 1000 n 2 fun n25 =>
  bn (FL_outcome yy gg A3 0 (A4 j23) x13 x6 (1 : Int32)) fun o24 =>
  if o24 = (1 : Int32) then
  (nm (x13 + (1 : Int32)) fun x_27 =>
  rl152 n25 A3 A4 x6 x7 x8 (1 : Int32) x_27)
  else
  (nm (x13 + (1 : Int32)) fun x_26 =>
  rl152 n25 A3 A4 x6 x7 x8 (0 : Int32) x_26))
  else
  (nm (x13 + (1 : Int32)) fun x_22 =>
  rl152 n A3 A4 x6 x7 x8 (1 : Int32) x_22)))
set_option maxHeartbeats 4000000 in
set_option maxRecDepth 100000 in
theorem jL_forced_152 {Y : QX} {out : Int32} (yy : Nat → Int32) (gg : Nat → Int32) (ll : Nat → Int32) (hE : EndQ Y mL_forced .ireturn [0, 1, 2] none [.inl (24, yy), .inl (36, gg), .inl (6, ll)] (fun _ => [.int out])) (rl152 : Nat → (Nat → Int32) → (Nat → Int64) → Int32 → Int32 → Int32 → Int32 → Int32 → Option (Int32)) (hr152 : ∀ (n : Nat) (A3 : Nat → Int32) (A4 : Nat → Int64) (x6 : Int32) (x7 : Int32) (x8 : Int32) (x12 : Int32) (x13 : Int32), rl152 n A3 A4 x6 x7 x8 x12 x13 = some out → JQ Y mL_forced (none) [0, 1, 2] [.inl (24, yy), .inl (36, gg), .inl (6, ll), .inl (6, A3), .inr (3, A4)] n 152 (fun b => [(0, .ref (b 0)), (1, .ref (b 1)), (6, .int x6), (7, .int x7), (8, .int x8), (9, .ref (b 3)), (10, .ref (b 4)), (12, .int x12), (13, .int x13)]) (fun _ => [])) (n : Nat) (A3 : Nat → Int32) (A4 : Nat → Int64) (x6 : Int32) (x7 : Int32) (x8 : Int32) (x12 : Int32) (x13 : Int32) (h : BL_forced_152 yy gg ll rl152 n A3 A4 x6 x7 x8 x12 x13 = some out) : JQ Y mL_forced (none) [0, 1, 2] [.inl (24, yy), .inl (36, gg), .inl (6, ll), .inl (6, A3), .inr (3, A4)] n 152 (fun b => [(0, .ref (b 0)), (1, .ref (b 1)), (6, .int x6), (7, .int x7), (8, .int x8), (9, .ref (b 3)), (10, .ref (b 4)), (12, .int x12), (13, .int x13)]) (fun _ => []) := by
  refine q_iload 8 dL_forced_152 rfl (fun _ => rfl) ?_
  refine q_iload 4 dL_forced_154 rfl (fun _ => rfl) ?_
  refine q_icmp_ge dL_forced_156 rfl rfl h (fun c h => ?_) (fun c h => ?_)
  · refine q_iload 7 dL_forced_203 rfl (fun _ => rfl) ?_
    refine q_sub [0, 1, 2, 3, 4, 7, 8] (fun b => [(0, .ref (b 0)), (1, .ref (b 1)), (6, .int x6), (7, .int x7), (8, .int x8), (12, .int x12), (13, .int x13)]) (fun _ => rfl) ?_
    refine q_pick [0, 1, 2] [.inl (24, yy), .inl (36, gg), .inl (6, ll)] [0, 1, 2] (fun b => [(0, .ref (b 0)), (1, .ref (b 1)), (6, .int x6), (7, .int x7), (8, .int x8), (12, .int x12), (13, .int x13)]) (fun _ => [.int x12]) rfl rfl (by decide) rfl (fun _ => rfl) (fun _ => rfl) ?_
    cases h
    exact hE _ _ _ dL_forced_205
  · refine q_iload 3 dL_forced_159 rfl (fun _ => rfl) ?_
    refine q_iconst dL_forced_161 rfl ki_2 ?_
    refine q_icmp_le dL_forced_162 rfl rfl h (fun c h => ?_) (fun c h => ?_)
    · refine q_iload 7 dL_forced_203 rfl (fun _ => rfl) ?_
      refine q_sub [0, 1, 2, 3, 4, 7, 8] (fun b => [(0, .ref (b 0)), (1, .ref (b 1)), (6, .int x6), (7, .int x7), (8, .int x8), (12, .int x12), (13, .int x13)]) (fun _ => rfl) ?_
      refine q_pick [0, 1, 2] [.inl (24, yy), .inl (36, gg), .inl (6, ll)] [0, 1, 2] (fun b => [(0, .ref (b 0)), (1, .ref (b 1)), (6, .int x6), (7, .int x7), (8, .int x8), (12, .int x12), (13, .int x13)]) (fun _ => [.int x12]) rfl rfl (by decide) rfl (fun _ => rfl) (fun _ => rfl) ?_
      cases h
      exact hE _ _ _ dL_forced_205
    · refine q_iload 7 dL_forced_165 rfl (fun _ => rfl) ?_
      refine q_if_ne dL_forced_167 rfl rfl h (fun c h => ?_) (fun c h => ?_)
      · refine q_iconst dL_forced_190 rfl ki_1 ?_
        refine q_goto dL_forced_191 rfl ?_
        refine q_istoreV (fun b => [(12, .int (1 : Int32)), (0, .ref (b 0)), (1, .ref (b 1)), (6, .int x6), (7, .int x7), (8, .int x8), (9, .ref (b 3)), (10, .ref (b 4)), (13, .int x13)]) dL_forced_195 rfl (show 12 < 14 by decide) (fun _ => rfl) ?_
        refine q_iinc 8 (fun x_22 => (fun b => [(13, .int x_22), (12, .int (1 : Int32)), (0, .ref (b 0)), (1, .ref (b 1)), (6, .int x6), (7, .int x7), (8, .int x8), (9, .ref (b 3)), (10, .ref (b 4))])) dL_forced_197 rfl (fun _ => rfl) ki_1 (show 13 < 14 by decide) (fun _ _ => rfl) h (fun x_22 h => ?_)
        refine q_goto dL_forced_200 rfl ?_
        refine q_sub [2, 3, 4, 5, 6, 7, 8, 1, 0] (fun b => [(0, .ref (b 0)), (1, .ref (b 1)), (6, .int x6), (7, .int x7), (8, .int x8), (9, .ref (b 3)), (10, .ref (b 4)), (12, .int (1 : Int32)), (13, .int x_22)]) (fun _ => rfl) ?_
        exact hr152 _ A3 A4 x6 x7 x8 (1 : Int32) x_22 h
      · refine q_aload_n 0 (fun b => b 0) dL_forced_170 rfl rfl (fun _ => rfl) ?_
        refine q_aload_n 1 (fun b => b 1) dL_forced_171 rfl rfl (fun _ => rfl) ?_
        refine q_aload 5 (fun b => b 3) dL_forced_172 rfl (fun _ => rfl) ?_
        refine q_aload 6 (fun b => b 4) dL_forced_174 rfl (fun _ => rfl) ?_
        refine q_iconst dL_forced_176 rfl ki_0 ?_
        refine q_lald 4 3 A4 rfl dL_forced_177 rfl h (fun j23 h => ?_)
        refine q_iload 8 dL_forced_178 rfl (fun _ => rfl) ?_
        refine q_iload 2 dL_forced_180 rfl (fun _ => rfl) ?_
        refine q_iconst dL_forced_182 rfl ki_1 ?_
        refine q_pick [2, 4, 0, 1, 3] [.inl (6, ll), .inr (3, A4), .inl (24, yy), .inl (36, gg), .inl (6, A3)] [2, 3, 0] (fun b => [(0, .ref (b 2)), (1, .ref (b 3)), (6, .int x6), (7, .int x7), (8, .int x8), (9, .ref (b 4)), (10, .ref (b 1)), (12, .int x12), (13, .int x13)]) (fun b => [.int (1 : Int32), .int x6, .int x13, .long (A4 j23), .ref (b 4), .ref (b 3), .ref (b 2)]) rfl rfl (by decide) rfl (fun _ => rfl) (fun _ => rfl) ?_
        obtain ⟨hN, h⟩ := al_of h
        obtain ⟨o24, hc, h⟩ := bn_of h
        refine q_call [.inl (6, ll), .inr (3, A4)] 2 (fun b => [.ref (b 2), .ref (b 3), .ref (b 4), .long (A4 j23), .int x13, .int x6, .int (1 : Int32)]) (fun _ => []) (coL_outcome yy gg A3 (A4 j23) x13 x6 (1 : Int32) o24 hc) rfl rfl rfl ms_RL_56 (by decide) (Or.inr hN) (fun _ => rfl) (fun _ => rfl) (fun _ => rfl) (fun _ => Nat.le_of_ble_eq_true rfl) dL_forced_183 rfl ?_
        show JQ Y mL_forced (none) [2, 3, 0] [.inl (6, ll), .inr (3, A4), .inl (24, yy), .inl (36, gg), .inl (6, A3)] _ 186 (fun b => [(0, .ref (b 2)), (1, .ref (b 3)), (6, .int x6), (7, .int x7), (8, .int x8), (9, .ref (b 4)), (10, .ref (b 1)), (12, .int x12), (13, .int x13)]) (fun _ => [.int o24])
        refine q_iconst dL_forced_186 rfl ki_1 ?_
        refine q_icmp_ne dL_forced_187 rfl rfl h (fun c h => ?_) (fun c h => ?_)
        · refine q_iconst dL_forced_194 rfl ki_0 ?_
          refine q_istoreV (fun b => [(12, .int (0 : Int32)), (0, .ref (b 2)), (1, .ref (b 3)), (6, .int x6), (7, .int x7), (8, .int x8), (9, .ref (b 4)), (10, .ref (b 1)), (13, .int x13)]) dL_forced_195 rfl (show 12 < 14 by decide) (fun _ => rfl) ?_
          refine q_iinc 8 (fun x_26 => (fun b => [(13, .int x_26), (12, .int (0 : Int32)), (0, .ref (b 2)), (1, .ref (b 3)), (6, .int x6), (7, .int x7), (8, .int x8), (9, .ref (b 4)), (10, .ref (b 1))])) dL_forced_197 rfl (fun _ => rfl) ki_1 (show 13 < 14 by decide) (fun _ _ => rfl) h (fun x_26 h => ?_)
          refine q_goto dL_forced_200 rfl ?_
          refine q_sub [2, 3, 4, 5, 6, 7, 8, 1, 0] (fun b => [(0, .ref (b 2)), (1, .ref (b 3)), (6, .int x6), (7, .int x7), (8, .int x8), (9, .ref (b 4)), (10, .ref (b 1)), (12, .int (0 : Int32)), (13, .int x_26)]) (fun _ => rfl) ?_
          refine q_pick [2, 3, 0, 4, 1] [.inl (24, yy), .inl (36, gg), .inl (6, ll), .inl (6, A3), .inr (3, A4)] [0, 1, 2] (fun b => [(0, .ref (b 0)), (1, .ref (b 1)), (6, .int x6), (7, .int x7), (8, .int x8), (9, .ref (b 3)), (10, .ref (b 4)), (12, .int (0 : Int32)), (13, .int x_26)]) (fun _ => []) rfl rfl (by decide) rfl (fun _ => rfl) (fun _ => rfl) ?_
          exact hr152 _ A3 A4 x6 x7 x8 (0 : Int32) x_26 h
        · refine q_iconst dL_forced_190 rfl ki_1 ?_
          refine q_goto dL_forced_191 rfl ?_
          refine q_istoreV (fun b => [(12, .int (1 : Int32)), (0, .ref (b 2)), (1, .ref (b 3)), (6, .int x6), (7, .int x7), (8, .int x8), (9, .ref (b 4)), (10, .ref (b 1)), (13, .int x13)]) dL_forced_195 rfl (show 12 < 14 by decide) (fun _ => rfl) ?_
          refine q_iinc 8 (fun x_27 => (fun b => [(13, .int x_27), (12, .int (1 : Int32)), (0, .ref (b 2)), (1, .ref (b 3)), (6, .int x6), (7, .int x7), (8, .int x8), (9, .ref (b 4)), (10, .ref (b 1))])) dL_forced_197 rfl (fun _ => rfl) ki_1 (show 13 < 14 by decide) (fun _ _ => rfl) h (fun x_27 h => ?_)
          refine q_goto dL_forced_200 rfl ?_
          refine q_sub [2, 3, 4, 5, 6, 7, 8, 1, 0] (fun b => [(0, .ref (b 2)), (1, .ref (b 3)), (6, .int x6), (7, .int x7), (8, .int x8), (9, .ref (b 4)), (10, .ref (b 1)), (12, .int (1 : Int32)), (13, .int x_27)]) (fun _ => rfl) ?_
          refine q_pick [2, 3, 0, 4, 1] [.inl (24, yy), .inl (36, gg), .inl (6, ll), .inl (6, A3), .inr (3, A4)] [0, 1, 2] (fun b => [(0, .ref (b 0)), (1, .ref (b 1)), (6, .int x6), (7, .int x7), (8, .int x8), (9, .ref (b 3)), (10, .ref (b 4)), (12, .int (1 : Int32)), (13, .int x_27)]) (fun _ => []) rfl rfl (by decide) rfl (fun _ => rfl) (fun _ => rfl) ?_
          exact hr152 _ A3 A4 x6 x7 x8 (1 : Int32) x_27 h
noncomputable def FL_forced_152 (yy : Nat → Int32) (gg : Nat → Int32) (ll : Nat → Int32) (fu : Nat) : Nat → (Nat → Int32) → (Nat → Int64) → Int32 → Int32 → Int32 → Int32 → Int32 → Option (Int32) :=
  Nat.rec (fun _ _ _ _ _ _ _ _ => none) (fun _ ih => BL_forced_152 yy gg ll ih) fu
theorem lL_forced_152 {Y : QX} {out : Int32} (yy : Nat → Int32) (gg : Nat → Int32) (ll : Nat → Int32) (hE : EndQ Y mL_forced .ireturn [0, 1, 2] none [.inl (24, yy), .inl (36, gg), .inl (6, ll)] (fun _ => [.int out])) : ∀ (fu : Nat) (n : Nat) (A3 : Nat → Int32) (A4 : Nat → Int64) (x6 : Int32) (x7 : Int32) (x8 : Int32) (x12 : Int32) (x13 : Int32), FL_forced_152 yy gg ll fu n A3 A4 x6 x7 x8 x12 x13 = some out → JQ Y mL_forced (none) [0, 1, 2] [.inl (24, yy), .inl (36, gg), .inl (6, ll), .inl (6, A3), .inr (3, A4)] n 152 (fun b => [(0, .ref (b 0)), (1, .ref (b 1)), (6, .int x6), (7, .int x7), (8, .int x8), (9, .ref (b 3)), (10, .ref (b 4)), (12, .int x12), (13, .int x13)]) (fun _ => []) := by
  intro fu
  induction fu with
  | zero => intro n A3 A4 x6 x7 x8 x12 x13 h; exact nn h
  | succ fu ih => intro n A3 A4 x6 x7 x8 x12 x13 h; exact jL_forced_152 yy gg ll hE (FL_forced_152 yy gg ll fu) ih n A3 A4 x6 x7 x8 x12 x13 h
noncomputable def FL_forced_110 (yy : Nat → Int32) (gg : Nat → Int32) (ll : Nat → Int32) (rl47 : Nat → (Nat → Int32) → (Nat → Int64) → Int32 → Int32 → Int32 → Int32 → Int32 → Option (Int32)) (n : Nat) (A3 : Nat → Int32) (A4 : Nat → Int64) (x6 : Int32) (x7 : Int32) (x8 : Int32) (x11 : Int32) (x12 : Int32) (x13 : Int32) : Option (Int32) :=
  if x13 = 0 then
  (rd (0 : Int32) 3 fun j29 =>
  al 1000 n 60 fun n31 =>
  bz (FL_wins yy gg A3 0 (A4 j29) x12 x6) fun o30 =>
  if o30 = 0 then
  (some (0 : Int32))
  else
  (nm (x12 + (1 : Int32)) fun x_32 =>
  rl47 n31 A3 A4 x6 x7 x8 x11 x_32))
  else
  (nm (x12 + (1 : Int32)) fun x_28 =>
  rl47 n A3 A4 x6 x7 x8 x11 x_28)
set_option maxHeartbeats 4000000 in
set_option maxRecDepth 100000 in
theorem jL_forced_110 {Y : QX} {out : Int32} (yy : Nat → Int32) (gg : Nat → Int32) (ll : Nat → Int32) (hE : EndQ Y mL_forced .ireturn [0, 1, 2] none [.inl (24, yy), .inl (36, gg), .inl (6, ll)] (fun _ => [.int out])) (rl47 : Nat → (Nat → Int32) → (Nat → Int64) → Int32 → Int32 → Int32 → Int32 → Int32 → Option (Int32)) (hr47 : ∀ (n : Nat) (A3 : Nat → Int32) (A4 : Nat → Int64) (x6 : Int32) (x7 : Int32) (x8 : Int32) (x11 : Int32) (x12 : Int32), rl47 n A3 A4 x6 x7 x8 x11 x12 = some out → JQ Y mL_forced (none) [0, 1, 2] [.inl (24, yy), .inl (36, gg), .inl (6, ll), .inl (6, A3), .inr (3, A4)] n 47 (fun b => [(0, .ref (b 0)), (1, .ref (b 1)), (6, .int x6), (7, .int x7), (8, .int x8), (9, .ref (b 3)), (10, .ref (b 4)), (11, .int x11), (12, .int x12)]) (fun _ => [])) (n : Nat) (A3 : Nat → Int32) (A4 : Nat → Int64) (x6 : Int32) (x7 : Int32) (x8 : Int32) (x11 : Int32) (x12 : Int32) (x13 : Int32) (h : FL_forced_110 yy gg ll rl47 n A3 A4 x6 x7 x8 x11 x12 x13 = some out) : JQ Y mL_forced (none) [0, 1, 2] [.inl (24, yy), .inl (36, gg), .inl (6, ll), .inl (6, A3), .inr (3, A4)] n 110 (fun b => [(0, .ref (b 0)), (1, .ref (b 1)), (6, .int x6), (7, .int x7), (8, .int x8), (9, .ref (b 3)), (10, .ref (b 4)), (11, .int x11), (12, .int x12), (13, .int x13)]) (fun _ => []) := by
  refine q_iload 9 dL_forced_110 rfl (fun _ => rfl) ?_
  refine q_if_ne dL_forced_112 rfl rfl h (fun c h => ?_) (fun c h => ?_)
  · refine q_iinc 8 (fun x_28 => (fun b => [(12, .int x_28), (0, .ref (b 0)), (1, .ref (b 1)), (6, .int x6), (7, .int x7), (8, .int x8), (9, .ref (b 3)), (10, .ref (b 4)), (11, .int x11), (13, .int x13)])) dL_forced_135 rfl (fun _ => rfl) ki_1 (show 12 < 14 by decide) (fun _ _ => rfl) h (fun x_28 h => ?_)
    refine q_goto dL_forced_138 rfl ?_
    refine q_sub [1, 2, 3, 4, 5, 6, 7, 8, 0] (fun b => [(0, .ref (b 0)), (1, .ref (b 1)), (6, .int x6), (7, .int x7), (8, .int x8), (9, .ref (b 3)), (10, .ref (b 4)), (11, .int x11), (12, .int x_28)]) (fun _ => rfl) ?_
    exact hr47 _ A3 A4 x6 x7 x8 x11 x_28 h
  · refine q_aload_n 0 (fun b => b 0) dL_forced_115 rfl rfl (fun _ => rfl) ?_
    refine q_aload_n 1 (fun b => b 1) dL_forced_116 rfl rfl (fun _ => rfl) ?_
    refine q_aload 5 (fun b => b 3) dL_forced_117 rfl (fun _ => rfl) ?_
    refine q_aload 6 (fun b => b 4) dL_forced_119 rfl (fun _ => rfl) ?_
    refine q_iconst dL_forced_121 rfl ki_0 ?_
    refine q_lald 4 3 A4 rfl dL_forced_122 rfl h (fun j29 h => ?_)
    refine q_iload 8 dL_forced_123 rfl (fun _ => rfl) ?_
    refine q_iload 2 dL_forced_125 rfl (fun _ => rfl) ?_
    refine q_pick [2, 4, 0, 1, 3] [.inl (6, ll), .inr (3, A4), .inl (24, yy), .inl (36, gg), .inl (6, A3)] [2, 3, 0] (fun b => [(0, .ref (b 2)), (1, .ref (b 3)), (6, .int x6), (7, .int x7), (8, .int x8), (9, .ref (b 4)), (10, .ref (b 1)), (11, .int x11), (12, .int x12), (13, .int x13)]) (fun b => [.int x6, .int x12, .long (A4 j29), .ref (b 4), .ref (b 3), .ref (b 2)]) rfl rfl (by decide) rfl (fun _ => rfl) (fun _ => rfl) ?_
    obtain ⟨hN, h⟩ := al_of h
    obtain ⟨o30, hc, hz, h⟩ := bz_of h
    refine q_call [.inl (6, ll), .inr (3, A4)] 2 (fun b => [.ref (b 2), .ref (b 3), .ref (b 4), .long (A4 j29), .int x12, .int x6]) (fun _ => []) (coL_wins yy gg A3 (A4 j29) x12 x6 o30 hc hz) rfl rfl rfl ms_RL_87 (by decide) (Or.inr hN) (fun _ => rfl) (fun _ => rfl) (fun _ => rfl) (fun _ => Nat.le_of_ble_eq_true rfl) dL_forced_127 rfl ?_
    show JQ Y mL_forced (none) [2, 3, 0] [.inl (6, ll), .inr (3, A4), .inl (24, yy), .inl (36, gg), .inl (6, A3)] _ 130 (fun b => [(0, .ref (b 2)), (1, .ref (b 3)), (6, .int x6), (7, .int x7), (8, .int x8), (9, .ref (b 4)), (10, .ref (b 1)), (11, .int x11), (12, .int x12), (13, .int x13)]) (fun _ => [.int o30])
    refine q_if_ne dL_forced_130 rfl rfl h (fun c h => ?_) (fun c h => ?_)
    · refine q_iinc 8 (fun x_32 => (fun b => [(12, .int x_32), (0, .ref (b 2)), (1, .ref (b 3)), (6, .int x6), (7, .int x7), (8, .int x8), (9, .ref (b 4)), (10, .ref (b 1)), (11, .int x11), (13, .int x13)])) dL_forced_135 rfl (fun _ => rfl) ki_1 (show 12 < 14 by decide) (fun _ _ => rfl) h (fun x_32 h => ?_)
      refine q_goto dL_forced_138 rfl ?_
      refine q_sub [1, 2, 3, 4, 5, 6, 7, 8, 0] (fun b => [(0, .ref (b 2)), (1, .ref (b 3)), (6, .int x6), (7, .int x7), (8, .int x8), (9, .ref (b 4)), (10, .ref (b 1)), (11, .int x11), (12, .int x_32)]) (fun _ => rfl) ?_
      refine q_pick [2, 3, 0, 4, 1] [.inl (24, yy), .inl (36, gg), .inl (6, ll), .inl (6, A3), .inr (3, A4)] [0, 1, 2] (fun b => [(0, .ref (b 0)), (1, .ref (b 1)), (6, .int x6), (7, .int x7), (8, .int x8), (9, .ref (b 3)), (10, .ref (b 4)), (11, .int x11), (12, .int x_32)]) (fun _ => []) rfl rfl (by decide) rfl (fun _ => rfl) (fun _ => rfl) ?_
      exact hr47 _ A3 A4 x6 x7 x8 x11 x_32 h
    · refine q_iconst dL_forced_133 rfl ki_0 ?_
      refine q_sub [0, 1, 2, 3, 4, 7, 8, 9] (fun b => [(0, .ref (b 2)), (1, .ref (b 3)), (6, .int x6), (7, .int x7), (8, .int x8), (11, .int x11), (12, .int x12), (13, .int x13)]) (fun _ => rfl) ?_
      refine q_pick [2, 3, 0] [.inl (24, yy), .inl (36, gg), .inl (6, ll)] [0, 1, 2] (fun b => [(0, .ref (b 0)), (1, .ref (b 1)), (6, .int x6), (7, .int x7), (8, .int x8), (11, .int x11), (12, .int x12), (13, .int x13)]) (fun _ => [.int (0 : Int32)]) rfl rfl (by decide) rfl (fun _ => rfl) (fun _ => rfl) ?_
      cases h
      exact hE _ _ _ dL_forced_134
noncomputable def FL_forced_89 (yy : Nat → Int32) (gg : Nat → Int32) (ll : Nat → Int32) (rl47 : Nat → (Nat → Int32) → (Nat → Int64) → Int32 → Int32 → Int32 → Int32 → Int32 → Option (Int32)) (n : Nat) (A3 : Nat → Int32) (A4 : Nat → Int64) (x6 : Int32) (x7 : Int32) (x8 : Int32) (x12 : Int32) (x13 : Int32) (s0 : Int32) : Option (Int32) :=
  if x13 = (-1 : Int32) then
  (some (0 : Int32))
  else
  (if x13 = 0 then
  (if x7 = (2 : Int32) then
  (some (0 : Int32))
  else
  (FL_forced_110 yy gg ll rl47 n A3 A4 x6 x7 x8 s0 x12 x13))
  else
  (FL_forced_110 yy gg ll rl47 n A3 A4 x6 x7 x8 s0 x12 x13))
set_option maxHeartbeats 4000000 in
set_option maxRecDepth 100000 in
theorem jL_forced_89 {Y : QX} {out : Int32} (yy : Nat → Int32) (gg : Nat → Int32) (ll : Nat → Int32) (hE : EndQ Y mL_forced .ireturn [0, 1, 2] none [.inl (24, yy), .inl (36, gg), .inl (6, ll)] (fun _ => [.int out])) (rl47 : Nat → (Nat → Int32) → (Nat → Int64) → Int32 → Int32 → Int32 → Int32 → Int32 → Option (Int32)) (hr47 : ∀ (n : Nat) (A3 : Nat → Int32) (A4 : Nat → Int64) (x6 : Int32) (x7 : Int32) (x8 : Int32) (x11 : Int32) (x12 : Int32), rl47 n A3 A4 x6 x7 x8 x11 x12 = some out → JQ Y mL_forced (none) [0, 1, 2] [.inl (24, yy), .inl (36, gg), .inl (6, ll), .inl (6, A3), .inr (3, A4)] n 47 (fun b => [(0, .ref (b 0)), (1, .ref (b 1)), (6, .int x6), (7, .int x7), (8, .int x8), (9, .ref (b 3)), (10, .ref (b 4)), (11, .int x11), (12, .int x12)]) (fun _ => [])) (n : Nat) (A3 : Nat → Int32) (A4 : Nat → Int64) (x6 : Int32) (x7 : Int32) (x8 : Int32) (x12 : Int32) (x13 : Int32) (s0 : Int32) (h : FL_forced_89 yy gg ll rl47 n A3 A4 x6 x7 x8 x12 x13 s0 = some out) : JQ Y mL_forced (none) [0, 1, 2] [.inl (24, yy), .inl (36, gg), .inl (6, ll), .inl (6, A3), .inr (3, A4)] n 89 (fun b => [(0, .ref (b 0)), (1, .ref (b 1)), (6, .int x6), (7, .int x7), (8, .int x8), (9, .ref (b 3)), (10, .ref (b 4)), (12, .int x12), (13, .int x13)]) (fun _ => [.int s0]) := by
  refine q_istoreV (fun b => [(11, .int s0), (0, .ref (b 0)), (1, .ref (b 1)), (6, .int x6), (7, .int x7), (8, .int x8), (9, .ref (b 3)), (10, .ref (b 4)), (12, .int x12), (13, .int x13)]) dL_forced_89 rfl (show 11 < 14 by decide) (fun _ => rfl) ?_
  refine q_iload 9 dL_forced_91 rfl (fun _ => rfl) ?_
  refine q_iconst dL_forced_93 rfl ki_m1 ?_
  refine q_icmp_eq dL_forced_94 rfl rfl h (fun c h => ?_) (fun c h => ?_)
  · refine q_iconst dL_forced_108 rfl ki_0 ?_
    refine q_sub [0, 1, 2, 3, 4, 5, 8, 9] (fun b => [(11, .int s0), (0, .ref (b 0)), (1, .ref (b 1)), (6, .int x6), (7, .int x7), (8, .int x8), (12, .int x12), (13, .int x13)]) (fun _ => rfl) ?_
    refine q_pick [0, 1, 2] [.inl (24, yy), .inl (36, gg), .inl (6, ll)] [0, 1, 2] (fun b => [(11, .int s0), (0, .ref (b 0)), (1, .ref (b 1)), (6, .int x6), (7, .int x7), (8, .int x8), (12, .int x12), (13, .int x13)]) (fun _ => [.int (0 : Int32)]) rfl rfl (by decide) rfl (fun _ => rfl) (fun _ => rfl) ?_
    cases h
    exact hE _ _ _ dL_forced_109
  · refine q_iload 9 dL_forced_97 rfl (fun _ => rfl) ?_
    refine q_if_ne dL_forced_99 rfl rfl h (fun c h => ?_) (fun c h => ?_)
    · refine q_sub [1, 2, 3, 4, 5, 6, 7, 0, 8, 9] (fun b => [(0, .ref (b 0)), (1, .ref (b 1)), (6, .int x6), (7, .int x7), (8, .int x8), (9, .ref (b 3)), (10, .ref (b 4)), (11, .int s0), (12, .int x12), (13, .int x13)]) (fun _ => rfl) ?_
      exact jL_forced_110 yy gg ll hE rl47 hr47 _ A3 A4 x6 x7 x8 s0 x12 x13 h
    · refine q_iload 4 dL_forced_102 rfl (fun _ => rfl) ?_
      refine q_iconst dL_forced_104 rfl ki_2 ?_
      refine q_icmp_ne dL_forced_105 rfl rfl h (fun c h => ?_) (fun c h => ?_)
      · refine q_sub [1, 2, 3, 4, 5, 6, 7, 0, 8, 9] (fun b => [(0, .ref (b 0)), (1, .ref (b 1)), (6, .int x6), (7, .int x7), (8, .int x8), (9, .ref (b 3)), (10, .ref (b 4)), (11, .int s0), (12, .int x12), (13, .int x13)]) (fun _ => rfl) ?_
        exact jL_forced_110 yy gg ll hE rl47 hr47 _ A3 A4 x6 x7 x8 s0 x12 x13 h
      · refine q_iconst dL_forced_108 rfl ki_0 ?_
        refine q_sub [0, 1, 2, 3, 4, 5, 8, 9] (fun b => [(11, .int s0), (0, .ref (b 0)), (1, .ref (b 1)), (6, .int x6), (7, .int x7), (8, .int x8), (12, .int x12), (13, .int x13)]) (fun _ => rfl) ?_
        refine q_pick [0, 1, 2] [.inl (24, yy), .inl (36, gg), .inl (6, ll)] [0, 1, 2] (fun b => [(11, .int s0), (0, .ref (b 0)), (1, .ref (b 1)), (6, .int x6), (7, .int x7), (8, .int x8), (12, .int x12), (13, .int x13)]) (fun _ => [.int (0 : Int32)]) rfl rfl (by decide) rfl (fun _ => rfl) (fun _ => rfl) ?_
        cases h
        exact hE _ _ _ dL_forced_109
noncomputable def BL_forced_47 (yy : Nat → Int32) (gg : Nat → Int32) (ll : Nat → Int32) (rl47 : Nat → (Nat → Int32) → (Nat → Int64) → Int32 → Int32 → Int32 → Int32 → Int32 → Option (Int32)) (n : Nat) (A3 : Nat → Int32) (A4 : Nat → Int64) (x6 : Int32) (x7 : Int32) (x8 : Int32) (x11 : Int32) (x12 : Int32) : Option (Int32) :=
  if x8 ≤ x12 then
  (if x11 = 0 then
  (FL_forced_152 yy gg ll FU n A3 A4 x6 x7 x8 (0 : Int32) (0 : Int32))
  else
  (some (1 : Int32)))
  else
  (rd (0 : Int32) 3 fun j33 =>
  al 1000 n 2 fun n35 =>
  bn (FL_outcome yy gg A3 0 (A4 j33) x12 x6 (0 : Int32)) fun o34 =>
  if x11 = 0 then
  (if o34 ≤ (-2 : Int32) then
  (FL_forced_89 yy gg ll rl47 n35 A3 A4 x6 x7 x8 x12 o34 (0 : Int32))
  else
  (FL_forced_89 yy gg ll rl47 n35 A3 A4 x6 x7 x8 x12 o34 (1 : Int32)))
  else
  (FL_forced_89 yy gg ll rl47 n35 A3 A4 x6 x7 x8 x12 o34 (1 : Int32)))
set_option maxHeartbeats 4000000 in
set_option maxRecDepth 100000 in
theorem jL_forced_47 {Y : QX} {out : Int32} (yy : Nat → Int32) (gg : Nat → Int32) (ll : Nat → Int32) (hE : EndQ Y mL_forced .ireturn [0, 1, 2] none [.inl (24, yy), .inl (36, gg), .inl (6, ll)] (fun _ => [.int out])) (rl47 : Nat → (Nat → Int32) → (Nat → Int64) → Int32 → Int32 → Int32 → Int32 → Int32 → Option (Int32)) (hr47 : ∀ (n : Nat) (A3 : Nat → Int32) (A4 : Nat → Int64) (x6 : Int32) (x7 : Int32) (x8 : Int32) (x11 : Int32) (x12 : Int32), rl47 n A3 A4 x6 x7 x8 x11 x12 = some out → JQ Y mL_forced (none) [0, 1, 2] [.inl (24, yy), .inl (36, gg), .inl (6, ll), .inl (6, A3), .inr (3, A4)] n 47 (fun b => [(0, .ref (b 0)), (1, .ref (b 1)), (6, .int x6), (7, .int x7), (8, .int x8), (9, .ref (b 3)), (10, .ref (b 4)), (11, .int x11), (12, .int x12)]) (fun _ => [])) (n : Nat) (A3 : Nat → Int32) (A4 : Nat → Int64) (x6 : Int32) (x7 : Int32) (x8 : Int32) (x11 : Int32) (x12 : Int32) (h : BL_forced_47 yy gg ll rl47 n A3 A4 x6 x7 x8 x11 x12 = some out) : JQ Y mL_forced (none) [0, 1, 2] [.inl (24, yy), .inl (36, gg), .inl (6, ll), .inl (6, A3), .inr (3, A4)] n 47 (fun b => [(0, .ref (b 0)), (1, .ref (b 1)), (6, .int x6), (7, .int x7), (8, .int x8), (9, .ref (b 3)), (10, .ref (b 4)), (11, .int x11), (12, .int x12)]) (fun _ => []) := by
  refine q_iload 8 dL_forced_47 rfl (fun _ => rfl) ?_
  refine q_iload 4 dL_forced_49 rfl (fun _ => rfl) ?_
  refine q_icmp_ge dL_forced_51 rfl rfl h (fun c h => ?_) (fun c h => ?_)
  · refine q_iload 7 dL_forced_141 rfl (fun _ => rfl) ?_
    refine q_if_ne dL_forced_143 rfl rfl h (fun c h => ?_) (fun c h => ?_)
    · refine q_iconst dL_forced_206 rfl ki_1 ?_
      refine q_sub [0, 1, 2, 3, 4, 7, 8] (fun b => [(0, .ref (b 0)), (1, .ref (b 1)), (6, .int x6), (7, .int x7), (8, .int x8), (11, .int x11), (12, .int x12)]) (fun _ => rfl) ?_
      refine q_pick [0, 1, 2] [.inl (24, yy), .inl (36, gg), .inl (6, ll)] [0, 1, 2] (fun b => [(0, .ref (b 0)), (1, .ref (b 1)), (6, .int x6), (7, .int x7), (8, .int x8), (11, .int x11), (12, .int x12)]) (fun _ => [.int (1 : Int32)]) rfl rfl (by decide) rfl (fun _ => rfl) (fun _ => rfl) ?_
      cases h
      exact hE _ _ _ dL_forced_207
    · refine q_iconst dL_forced_146 rfl ki_0 ?_
      refine q_istoreV (fun b => [(12, .int (0 : Int32)), (0, .ref (b 0)), (1, .ref (b 1)), (6, .int x6), (7, .int x7), (8, .int x8), (9, .ref (b 3)), (10, .ref (b 4)), (11, .int x11)]) dL_forced_147 rfl (show 12 < 14 by decide) (fun _ => rfl) ?_
      refine q_iconst dL_forced_149 rfl ki_0 ?_
      refine q_istoreV (fun b => [(13, .int (0 : Int32)), (12, .int (0 : Int32)), (0, .ref (b 0)), (1, .ref (b 1)), (6, .int x6), (7, .int x7), (8, .int x8), (9, .ref (b 3)), (10, .ref (b 4)), (11, .int x11)]) dL_forced_150 rfl (show 13 < 14 by decide) (fun _ => rfl) ?_
      refine q_sub [2, 3, 4, 5, 6, 7, 8, 1, 0] (fun b => [(0, .ref (b 0)), (1, .ref (b 1)), (6, .int x6), (7, .int x7), (8, .int x8), (9, .ref (b 3)), (10, .ref (b 4)), (12, .int (0 : Int32)), (13, .int (0 : Int32))]) (fun _ => rfl) ?_
      exact lL_forced_152 yy gg ll hE FU _ A3 A4 x6 x7 x8 (0 : Int32) (0 : Int32) h
  · refine q_aload_n 0 (fun b => b 0) dL_forced_54 rfl rfl (fun _ => rfl) ?_
    refine q_aload_n 1 (fun b => b 1) dL_forced_55 rfl rfl (fun _ => rfl) ?_
    refine q_aload 5 (fun b => b 3) dL_forced_56 rfl (fun _ => rfl) ?_
    refine q_aload 6 (fun b => b 4) dL_forced_58 rfl (fun _ => rfl) ?_
    refine q_iconst dL_forced_60 rfl ki_0 ?_
    refine q_lald 4 3 A4 rfl dL_forced_61 rfl h (fun j33 h => ?_)
    refine q_iload 8 dL_forced_62 rfl (fun _ => rfl) ?_
    refine q_iload 2 dL_forced_64 rfl (fun _ => rfl) ?_
    refine q_iconst dL_forced_66 rfl ki_0 ?_
    refine q_pick [2, 4, 0, 1, 3] [.inl (6, ll), .inr (3, A4), .inl (24, yy), .inl (36, gg), .inl (6, A3)] [2, 3, 0] (fun b => [(0, .ref (b 2)), (1, .ref (b 3)), (6, .int x6), (7, .int x7), (8, .int x8), (9, .ref (b 4)), (10, .ref (b 1)), (11, .int x11), (12, .int x12)]) (fun b => [.int (0 : Int32), .int x6, .int x12, .long (A4 j33), .ref (b 4), .ref (b 3), .ref (b 2)]) rfl rfl (by decide) rfl (fun _ => rfl) (fun _ => rfl) ?_
    obtain ⟨hN, h⟩ := al_of h
    obtain ⟨o34, hc, h⟩ := bn_of h
    refine q_call [.inl (6, ll), .inr (3, A4)] 2 (fun b => [.ref (b 2), .ref (b 3), .ref (b 4), .long (A4 j33), .int x12, .int x6, .int (0 : Int32)]) (fun _ => []) (coL_outcome yy gg A3 (A4 j33) x12 x6 (0 : Int32) o34 hc) rfl rfl rfl ms_RL_56 (by decide) (Or.inr hN) (fun _ => rfl) (fun _ => rfl) (fun _ => rfl) (fun _ => Nat.le_of_ble_eq_true rfl) dL_forced_67 rfl ?_
    show JQ Y mL_forced (none) [2, 3, 0] [.inl (6, ll), .inr (3, A4), .inl (24, yy), .inl (36, gg), .inl (6, A3)] _ 70 (fun b => [(0, .ref (b 2)), (1, .ref (b 3)), (6, .int x6), (7, .int x7), (8, .int x8), (9, .ref (b 4)), (10, .ref (b 1)), (11, .int x11), (12, .int x12)]) (fun _ => [.int o34])
    refine q_istoreV (fun b => [(13, .int o34), (0, .ref (b 2)), (1, .ref (b 3)), (6, .int x6), (7, .int x7), (8, .int x8), (9, .ref (b 4)), (10, .ref (b 1)), (11, .int x11), (12, .int x12)]) dL_forced_70 rfl (show 13 < 14 by decide) (fun _ => rfl) ?_
    refine q_iload 8 dL_forced_72 rfl (fun _ => rfl) ?_
    refine q_if_ne dL_forced_74 rfl rfl h (fun c h => ?_) (fun c h => ?_)
    · refine q_iconst dL_forced_84 rfl ki_1 ?_
      refine q_goto dL_forced_85 rfl ?_
      refine q_sub [1, 2, 3, 4, 5, 6, 7, 9, 0] (fun b => [(0, .ref (b 2)), (1, .ref (b 3)), (6, .int x6), (7, .int x7), (8, .int x8), (9, .ref (b 4)), (10, .ref (b 1)), (12, .int x12), (13, .int o34)]) (fun _ => rfl) ?_
      refine q_pick [2, 3, 0, 4, 1] [.inl (24, yy), .inl (36, gg), .inl (6, ll), .inl (6, A3), .inr (3, A4)] [0, 1, 2] (fun b => [(0, .ref (b 0)), (1, .ref (b 1)), (6, .int x6), (7, .int x7), (8, .int x8), (9, .ref (b 3)), (10, .ref (b 4)), (12, .int x12), (13, .int o34)]) (fun _ => [.int (1 : Int32)]) rfl rfl (by decide) rfl (fun _ => rfl) (fun _ => rfl) ?_
      exact jL_forced_89 yy gg ll hE rl47 hr47 _ A3 A4 x6 x7 x8 x12 o34 (1 : Int32) h
    · refine q_iload 0 dL_forced_77 rfl (fun _ => rfl) ?_
      refine q_bipush dL_forced_79 rfl kb_m2 ?_
      refine q_icmp_le dL_forced_81 rfl rfl h (fun c h => ?_) (fun c h => ?_)
      · refine q_iconst dL_forced_88 rfl ki_0 ?_
        refine q_sub [1, 2, 3, 4, 5, 6, 7, 9, 0] (fun b => [(0, .ref (b 2)), (1, .ref (b 3)), (6, .int x6), (7, .int x7), (8, .int x8), (9, .ref (b 4)), (10, .ref (b 1)), (12, .int x12), (13, .int o34)]) (fun _ => rfl) ?_
        refine q_pick [2, 3, 0, 4, 1] [.inl (24, yy), .inl (36, gg), .inl (6, ll), .inl (6, A3), .inr (3, A4)] [0, 1, 2] (fun b => [(0, .ref (b 0)), (1, .ref (b 1)), (6, .int x6), (7, .int x7), (8, .int x8), (9, .ref (b 3)), (10, .ref (b 4)), (12, .int x12), (13, .int o34)]) (fun _ => [.int (0 : Int32)]) rfl rfl (by decide) rfl (fun _ => rfl) (fun _ => rfl) ?_
        exact jL_forced_89 yy gg ll hE rl47 hr47 _ A3 A4 x6 x7 x8 x12 o34 (0 : Int32) h
      · refine q_iconst dL_forced_84 rfl ki_1 ?_
        refine q_goto dL_forced_85 rfl ?_
        refine q_sub [1, 2, 3, 4, 5, 6, 7, 9, 0] (fun b => [(0, .ref (b 2)), (1, .ref (b 3)), (6, .int x6), (7, .int x7), (8, .int x8), (9, .ref (b 4)), (10, .ref (b 1)), (12, .int x12), (13, .int o34)]) (fun _ => rfl) ?_
        refine q_pick [2, 3, 0, 4, 1] [.inl (24, yy), .inl (36, gg), .inl (6, ll), .inl (6, A3), .inr (3, A4)] [0, 1, 2] (fun b => [(0, .ref (b 0)), (1, .ref (b 1)), (6, .int x6), (7, .int x7), (8, .int x8), (9, .ref (b 3)), (10, .ref (b 4)), (12, .int x12), (13, .int o34)]) (fun _ => [.int (1 : Int32)]) rfl rfl (by decide) rfl (fun _ => rfl) (fun _ => rfl) ?_
        exact jL_forced_89 yy gg ll hE rl47 hr47 _ A3 A4 x6 x7 x8 x12 o34 (1 : Int32) h
noncomputable def FL_forced_47 (yy : Nat → Int32) (gg : Nat → Int32) (ll : Nat → Int32) (fu : Nat) : Nat → (Nat → Int32) → (Nat → Int64) → Int32 → Int32 → Int32 → Int32 → Int32 → Option (Int32) :=
  Nat.rec (fun _ _ _ _ _ _ _ _ => none) (fun _ ih => BL_forced_47 yy gg ll ih) fu
theorem lL_forced_47 {Y : QX} {out : Int32} (yy : Nat → Int32) (gg : Nat → Int32) (ll : Nat → Int32) (hE : EndQ Y mL_forced .ireturn [0, 1, 2] none [.inl (24, yy), .inl (36, gg), .inl (6, ll)] (fun _ => [.int out])) : ∀ (fu : Nat) (n : Nat) (A3 : Nat → Int32) (A4 : Nat → Int64) (x6 : Int32) (x7 : Int32) (x8 : Int32) (x11 : Int32) (x12 : Int32), FL_forced_47 yy gg ll fu n A3 A4 x6 x7 x8 x11 x12 = some out → JQ Y mL_forced (none) [0, 1, 2] [.inl (24, yy), .inl (36, gg), .inl (6, ll), .inl (6, A3), .inr (3, A4)] n 47 (fun b => [(0, .ref (b 0)), (1, .ref (b 1)), (6, .int x6), (7, .int x7), (8, .int x8), (9, .ref (b 3)), (10, .ref (b 4)), (11, .int x11), (12, .int x12)]) (fun _ => []) := by
  intro fu
  induction fu with
  | zero => intro n A3 A4 x6 x7 x8 x11 x12 h; exact nn h
  | succ fu ih => intro n A3 A4 x6 x7 x8 x11 x12 h; exact jL_forced_47 yy gg ll hE (FL_forced_47 yy gg ll fu) ih n A3 A4 x6 x7 x8 x11 x12 h
noncomputable def FL_forced (yy : Nat → Int32) (gg : Nat → Int32) (ll : Nat → Int32) (n : Nat) (a3 : Int64) (a5 : Int32) (a6 : Int32) (a7 : Int32) : Option (Int32) :=
  rd (2 : Int32) 24 fun j36 =>
  nm ((4 : Int32) * (yy j36)) fun x_37 =>
  bn (FL_copied ll 0) fun o38 =>
  al 1000 n 1 fun n39 =>
  al 1000 n39 1 fun n40 =>
  stB (0 : Int32) 3 zL a3 fun f41 =>
  dzI (4 : Int32) <|
  dzI (4 : Int32) <|
  bn (FL_push yy gg o38 f41 (a5 / (4 : Int32)) (a5 - a5 / (4 : Int32) * (4 : Int32))) fun o42 =>
  FL_forced_47 yy gg ll FU n40 o42.2.1 o42.2.2 a6 a7 x_37 (0 : Int32) (0 : Int32)
set_option maxHeartbeats 4000000 in
set_option maxRecDepth 100000 in
theorem eL_forced {Y : QX} {out : Int32} (yy : Nat → Int32) (gg : Nat → Int32) (ll : Nat → Int32) (hE : EndQ Y mL_forced .ireturn [0, 1, 2] none [.inl (24, yy), .inl (36, gg), .inl (6, ll)] (fun _ => [.int out])) (n : Nat) (a3 : Int64) (a5 : Int32) (a6 : Int32) (a7 : Int32) (h : FL_forced yy gg ll n a3 a5 a6 a7 = some out) : JQ Y mL_forced (none) [0, 1, 2] [.inl (24, yy), .inl (36, gg), .inl (6, ll)] n 0 (fun b => [(0, .ref (b 0)), (1, .ref (b 1)), (2, .ref (b 2)), (3, .long a3), (5, .int a5), (6, .int a6), (7, .int a7)]) (fun _ => []) := by
  refine q_iconst dL_forced_0 rfl ki_4 ?_
  refine q_aload_n 0 (fun b => b 0) dL_forced_1 rfl rfl (fun _ => rfl) ?_
  refine q_iconst dL_forced_2 rfl ki_2 ?_
  refine q_iald 0 24 yy rfl dL_forced_3 rfl h (fun j36 h => ?_)
  refine q_imul dL_forced_4 rfl ?_
  refine q_istore (fun x_37 => (fun b => [(8, .int x_37), (0, .ref (b 0)), (1, .ref (b 1)), (2, .ref (b 2)), (3, .long a3), (5, .int a5), (6, .int a6), (7, .int a7)])) dL_forced_5 rfl (show 8 < 14 by decide) (fun _ _ => rfl) h (fun x_37 h => ?_)
  refine q_aload_n 3 (fun b => b 2) dL_forced_7 rfl rfl (fun _ => rfl) ?_
  obtain ⟨o38, hc, h⟩ := bn_of h
  refine q_callA [.inl (24, yy), .inl (36, gg)] 2 1 3 (fun b => [.ref (b 2)]) (fun _ => []) (coL_copied ll o38 hc) rfl rfl rfl rfl ms_RL_44 (by decide) h (fun _ => rfl) (fun _ => rfl) (fun _ => rfl) (fun _ => Nat.le_of_ble_eq_true rfl) (fun _ _ => rfl) (fun _ _ => rfl) (by decide) dL_forced_8 rfl (fun h => ?_)
  show JQ Y mL_forced (none) [0, 1, 2] [.inl (24, yy), .inl (36, gg), .inl (6, ll), .inl (6, o38)] _ 11 (fun b => [(8, .int x_37), (0, .ref (b 0)), (1, .ref (b 1)), (2, .ref (b 2)), (3, .long a3), (5, .int a5), (6, .int a6), (7, .int a7)]) (fun b => [.ref (b 3)])
  refine q_astore (fun b => b 3) (fun b => [(9, .ref (b 3)), (8, .int x_37), (0, .ref (b 0)), (1, .ref (b 1)), (2, .ref (b 2)), (3, .long a3), (5, .int a5), (6, .int a6), (7, .int a7)]) dL_forced_11 rfl (show 9 < 14 by decide) (fun _ => rfl) ?_
  refine q_iconst dL_forced_13 rfl ki_3 ?_
  refine q_newL 1 4 3 [.inl (24, yy), .inl (36, gg), .inl (6, ll), .inl (6, o38), .inr (3, zL)] aw_J (by decide) (by decide) (by decide) (by decide) (by decide) rfl (fun _ _ => rfl) (fun _ _ => rfl) (by decide) rfl dL_forced_14 rfl h (fun h => ?_)
  refine q_astore (fun b => b 4) (fun b => [(10, .ref (b 4)), (9, .ref (b 3)), (8, .int x_37), (0, .ref (b 0)), (1, .ref (b 1)), (2, .ref (b 2)), (3, .long a3), (5, .int a5), (6, .int a6), (7, .int a7)]) dL_forced_16 rfl (show 10 < 14 by decide) (fun _ => rfl) ?_
  refine q_aload 0 (fun b => b 4) dL_forced_18 rfl (fun _ => rfl) ?_
  refine q_iconst dL_forced_20 rfl ki_0 ?_
  refine q_lload_n 6 dL_forced_21 rfl rfl (fun _ => rfl) ?_
  refine q_last 4 3 zL (fun f41 => [.inl (24, yy), .inl (36, gg), .inl (6, ll), .inl (6, o38), .inr (3, f41)]) rfl (fun _ => rfl) dL_forced_22 rfl h (fun f41 h => ?_)
  refine q_aload_n 3 (fun b => b 0) dL_forced_23 rfl rfl (fun _ => rfl) ?_
  refine q_aload_n 4 (fun b => b 1) dL_forced_24 rfl rfl (fun _ => rfl) ?_
  refine q_aload 1 (fun b => b 3) dL_forced_25 rfl (fun _ => rfl) ?_
  refine q_aload 0 (fun b => b 4) dL_forced_27 rfl (fun _ => rfl) ?_
  refine q_iload 7 dL_forced_29 rfl (fun _ => rfl) ?_
  refine q_iconst dL_forced_31 rfl ki_4 ?_
  refine q_idiv dL_forced_32 rfl h (fun h => ?_)
  refine q_iload 7 dL_forced_33 rfl (fun _ => rfl) ?_
  refine q_iconst dL_forced_35 rfl ki_4 ?_
  refine q_irem dL_forced_36 rfl h (fun h => ?_)
  refine q_pick [2, 0, 1, 3, 4] [.inl (6, ll), .inl (24, yy), .inl (36, gg), .inl (6, o38), .inr (3, f41)] [1, 2, 0] (fun b => [(10, .ref (b 4)), (9, .ref (b 3)), (8, .int x_37), (0, .ref (b 1)), (1, .ref (b 2)), (2, .ref (b 0)), (3, .long a3), (5, .int a5), (6, .int a6), (7, .int a7)]) (fun b => [.int (a5 - a5 / (4 : Int32) * (4 : Int32)), .int (a5 / (4 : Int32)), .ref (b 4), .ref (b 3), .ref (b 2), .ref (b 1)]) rfl rfl (by decide) rfl (fun _ => rfl) (fun _ => rfl) ?_
  obtain ⟨o42, hc, h⟩ := bn_of h
  refine q_call [.inl (6, ll)] 1 (fun b => [.ref (b 1), .ref (b 2), .ref (b 3), .ref (b 4), .int (a5 / (4 : Int32)), .int (a5 - a5 / (4 : Int32) * (4 : Int32))]) (fun _ => []) (coL_push yy gg o38 f41 (a5 / (4 : Int32)) (a5 - a5 / (4 : Int32) * (4 : Int32)) o42 hc) rfl rfl rfl ms_RL_47 (by decide) (Or.inl rfl) (fun _ => rfl) (fun _ => rfl) (fun _ => rfl) (fun _ => Nat.le_of_ble_eq_true rfl) dL_forced_37 rfl ?_
  show JQ Y mL_forced (none) [1, 2, 0] [.inl (6, ll), .inl (24, yy), .inl (36, gg), .inl (6, o42.2.1), .inr (3, o42.2.2)] _ 40 (fun b => [(10, .ref (b 4)), (9, .ref (b 3)), (8, .int x_37), (0, .ref (b 1)), (1, .ref (b 2)), (2, .ref (b 0)), (3, .long a3), (5, .int a5), (6, .int a6), (7, .int a7)]) (fun _ => [.int o42.1])
  refine q_pop (v := fun b => .int o42.1) dL_forced_40 rfl (fun _ => rfl) ?_
  refine q_iconst dL_forced_41 rfl ki_0 ?_
  refine q_istoreV (fun b => [(11, .int (0 : Int32)), (10, .ref (b 4)), (9, .ref (b 3)), (8, .int x_37), (0, .ref (b 1)), (1, .ref (b 2)), (2, .ref (b 0)), (3, .long a3), (5, .int a5), (6, .int a6), (7, .int a7)]) dL_forced_42 rfl (show 11 < 14 by decide) (fun _ => rfl) ?_
  refine q_iconst dL_forced_44 rfl ki_0 ?_
  refine q_istoreV (fun b => [(12, .int (0 : Int32)), (11, .int (0 : Int32)), (10, .ref (b 4)), (9, .ref (b 3)), (8, .int x_37), (0, .ref (b 1)), (1, .ref (b 2)), (2, .ref (b 0)), (3, .long a3), (5, .int a5), (6, .int a6), (7, .int a7)]) dL_forced_45 rfl (show 12 < 14 by decide) (fun _ => rfl) ?_
  refine q_sub [5, 6, 10, 11, 4, 3, 2, 1, 0] (fun b => [(0, .ref (b 1)), (1, .ref (b 2)), (6, .int a6), (7, .int a7), (8, .int x_37), (9, .ref (b 3)), (10, .ref (b 4)), (11, .int (0 : Int32)), (12, .int (0 : Int32))]) (fun _ => rfl) ?_
  refine q_pick [1, 2, 0, 3, 4] [.inl (24, yy), .inl (36, gg), .inl (6, ll), .inl (6, o42.2.1), .inr (3, o42.2.2)] [0, 1, 2] (fun b => [(0, .ref (b 0)), (1, .ref (b 1)), (6, .int a6), (7, .int a7), (8, .int x_37), (9, .ref (b 3)), (10, .ref (b 4)), (11, .int (0 : Int32)), (12, .int (0 : Int32))]) (fun _ => []) rfl rfl (by decide) rfl (fun _ => rfl) (fun _ => rfl) ?_
  exact lL_forced_47 yy gg ll hE FU _ o42.2.1 o42.2.2 a6 a7 x_37 (0 : Int32) (0 : Int32) h
theorem coL_forced {L : Nat} {xs : Nat → Int32} (yy : Nat → Int32) (gg : Nat → Int32) (ll : Nat → Int32) (a3 : Int64) (a5 : Int32) (a6 : Int32) (a7 : Int32) (o : Int32) (h : FL_forced yy gg ll 0 a3 a5 a6 a7 = some o) (hz : o = 0 ∨ o = 1) : ConQ .ireturn 5 1000 yL_forced cL_forced 14 (some .boolean) L xs (fun b ad b0 => [.ref (b 0), .ref (b 1), .ref (b 2), .long a3, .int a5, .int a6, .int a7]) [.inl (24, yy), .inl (36, gg), .inl (6, ll)] none (fun _ => .int o) [.inl (24, yy), .inl (36, gg), .inl (6, ll)] none :=
  conQ_of (by decide +kernel) rfl (fun _ _ _ => Nat.le_of_ble_eq_true rfl) (Or.inl ⟨rfl, Or.inr ⟨rfl, fun _ => hz.imp (fun z => congrArg Value.int z) (fun z => congrArg Value.int z)⟩⟩) (fun Y hL hx hE => by
    subst hL; subst hx
    exact eL_forced yy gg ll hE 0 a3 a5 a6 a7 h)
-- lay
abbrev mL_lay : MQD := (cL_lay, 16, (some .int), 7, 0)
noncomputable def FL_lay_419 (L : Nat) (xs : Nat → Int32) (rl102 : Mem → (Nat → Int32) → (Nat → Int32) → Int32 → Int32 → Int32 → Int32 → Int32 → Int32 → Option (Int32 × (Nat → Int32) × (Nat → Int32) × Mem)) (σ : Mem) (A0 : Nat → Int32) (A1 : Nat → Int32) (x4 : Int32) (x6 : Int32) (x8 : Int32) (x9 : Int32) (x10 : Int32) (x11 : Int32) (x15 : Int32) : Option (Int32 × (Nat → Int32) × (Nat → Int32) × Mem) :=
  if x9 = 0 then
  (nm (x10 + (1 : Int32)) fun x_45 =>
  nm (x11 + (1 : Int32)) fun x_46 =>
  rl102 σ A0 A1 x4 x6 x8 (0 : Int32) x_45 x_46)
  else
  (bi (FX8_put σ (0 : Int32) x10 x15) fun r47 σ48 =>
  if r47 = (1 : Int32) then
  (nm (x10 + (1 : Int32)) fun x_51 =>
  nm (x11 + (1 : Int32)) fun x_52 =>
  rl102 σ48 A0 A1 x4 x6 x8 (1 : Int32) x_51 x_52)
  else
  (nm (x10 + (1 : Int32)) fun x_49 =>
  nm (x11 + (1 : Int32)) fun x_50 =>
  rl102 σ48 A0 A1 x4 x6 x8 (0 : Int32) x_49 x_50))
set_option maxHeartbeats 4000000 in
set_option maxRecDepth 100000 in
theorem jL_lay_419 {Y : QX} {out : Int32 × (Nat → Int32) × (Nat → Int32) × Mem} (hE : EndQ Y mL_lay .ireturn [0, 1] (some out.2.2.2) [.inl (24, out.2.1), .inl (36, out.2.2.1)] (fun _ => [.int out.1])) (rl102 : Mem → (Nat → Int32) → (Nat → Int32) → Int32 → Int32 → Int32 → Int32 → Int32 → Int32 → Option (Int32 × (Nat → Int32) × (Nat → Int32) × Mem)) (hr102 : ∀ (σ : Mem) (A0 : Nat → Int32) (A1 : Nat → Int32) (x4 : Int32) (x6 : Int32) (x8 : Int32) (x9 : Int32) (x10 : Int32) (x11 : Int32), rl102 σ A0 A1 x4 x6 x8 x9 x10 x11 = some out → JQ Y mL_lay (some σ) [0, 1] [.inl (24, A0), .inl (36, A1)] 0 102 (fun b => [(0, .ref (xad (qX Y) 0)), (1, .ref (b 0)), (2, .ref (b 1)), (3, .ref (qb Y)), (4, .int x4), (6, .int x6), (8, .int x8), (9, .int x9), (10, .int x10), (11, .int x11)]) (fun _ => [])) (σ : Mem) (A0 : Nat → Int32) (A1 : Nat → Int32) (x4 : Int32) (x6 : Int32) (x8 : Int32) (x9 : Int32) (x10 : Int32) (x11 : Int32) (x15 : Int32) (h : FL_lay_419 (qL Y) (qs Y) rl102 σ A0 A1 x4 x6 x8 x9 x10 x11 x15 = some out) : JQ Y mL_lay (some σ) [0, 1] [.inl (24, A0), .inl (36, A1)] 0 419 (fun b => [(0, .ref (xad (qX Y) 0)), (1, .ref (b 0)), (2, .ref (b 1)), (3, .ref (qb Y)), (4, .int x4), (6, .int x6), (8, .int x8), (9, .int x9), (10, .int x10), (11, .int x11), (15, .int x15)]) (fun _ => []) := by
  refine q_iload 7 dL_lay_419 rfl (fun _ => rfl) ?_
  refine q_if_eq dL_lay_421 rfl rfl h (fun c h => ?_) (fun c h => ?_)
  · refine q_iconst dL_lay_441 rfl ki_0 ?_
    refine q_istoreV (fun b => [(9, .int (0 : Int32)), (0, .ref (xad (qX Y) 0)), (1, .ref (b 0)), (2, .ref (b 1)), (3, .ref (qb Y)), (4, .int x4), (6, .int x6), (8, .int x8), (10, .int x10), (11, .int x11), (15, .int x15)]) dL_lay_442 rfl (show 9 < 16 by decide) (fun _ => rfl) ?_
    refine q_iinc 8 (fun x_45 => (fun b => [(10, .int x_45), (9, .int (0 : Int32)), (0, .ref (xad (qX Y) 0)), (1, .ref (b 0)), (2, .ref (b 1)), (3, .ref (qb Y)), (4, .int x4), (6, .int x6), (8, .int x8), (11, .int x11), (15, .int x15)])) dL_lay_444 rfl (fun _ => rfl) ki_1 (show 10 < 16 by decide) (fun _ _ => rfl) h (fun x_45 h => ?_)
    refine q_iinc 9 (fun x_46 => (fun b => [(11, .int x_46), (10, .int x_45), (9, .int (0 : Int32)), (0, .ref (xad (qX Y) 0)), (1, .ref (b 0)), (2, .ref (b 1)), (3, .ref (qb Y)), (4, .int x4), (6, .int x6), (8, .int x8), (15, .int x15)])) dL_lay_447 rfl (fun _ => rfl) ki_1 (show 11 < 16 by decide) (fun _ _ => rfl) h (fun x_46 h => ?_)
    refine q_goto dL_lay_450 rfl ?_
    refine q_sub [3, 4, 5, 6, 7, 8, 9, 2, 1, 0] (fun b => [(0, .ref (xad (qX Y) 0)), (1, .ref (b 0)), (2, .ref (b 1)), (3, .ref (qb Y)), (4, .int x4), (6, .int x6), (8, .int x8), (9, .int (0 : Int32)), (10, .int x_45), (11, .int x_46)]) (fun _ => rfl) ?_
    exact hr102 σ A0 A1 x4 x6 x8 (0 : Int32) x_45 x_46 h
  · refine q_aload_n 0 (fun _ => xad (qX Y) 0) dL_lay_424 rfl rfl (fun _ => rfl) ?_
    refine q_iconst dL_lay_425 rfl ki_0 ?_
    refine q_iload 8 dL_lay_426 rfl (fun _ => rfl) ?_
    refine q_iload 10 dL_lay_428 rfl (fun _ => rfl) ?_
    obtain ⟨r47, σ48, hc, h⟩ := bi_of h
    refine q_callX [.int (0 : Int32), .int x10, .int x15] [] (coX8_put σ (0 : Int32) x10 x15 r47 σ48 hc) mv_RL_19 (by decide) rfl rfl (fun _ => rfl) (Nat.le_of_ble_eq_true rfl) dL_lay_430 rfl ?_
    refine q_iconst dL_lay_433 rfl ki_1 ?_
    refine q_icmp_ne dL_lay_434 rfl rfl h (fun c h => ?_) (fun c h => ?_)
    · refine q_iconst dL_lay_441 rfl ki_0 ?_
      refine q_istoreV (fun b => [(9, .int (0 : Int32)), (0, .ref (xad (qX Y) 0)), (1, .ref (b 0)), (2, .ref (b 1)), (3, .ref (qb Y)), (4, .int x4), (6, .int x6), (8, .int x8), (10, .int x10), (11, .int x11), (15, .int x15)]) dL_lay_442 rfl (show 9 < 16 by decide) (fun _ => rfl) ?_
      refine q_iinc 8 (fun x_49 => (fun b => [(10, .int x_49), (9, .int (0 : Int32)), (0, .ref (xad (qX Y) 0)), (1, .ref (b 0)), (2, .ref (b 1)), (3, .ref (qb Y)), (4, .int x4), (6, .int x6), (8, .int x8), (11, .int x11), (15, .int x15)])) dL_lay_444 rfl (fun _ => rfl) ki_1 (show 10 < 16 by decide) (fun _ _ => rfl) h (fun x_49 h => ?_)
      refine q_iinc 9 (fun x_50 => (fun b => [(11, .int x_50), (10, .int x_49), (9, .int (0 : Int32)), (0, .ref (xad (qX Y) 0)), (1, .ref (b 0)), (2, .ref (b 1)), (3, .ref (qb Y)), (4, .int x4), (6, .int x6), (8, .int x8), (15, .int x15)])) dL_lay_447 rfl (fun _ => rfl) ki_1 (show 11 < 16 by decide) (fun _ _ => rfl) h (fun x_50 h => ?_)
      refine q_goto dL_lay_450 rfl ?_
      refine q_sub [3, 4, 5, 6, 7, 8, 9, 2, 1, 0] (fun b => [(0, .ref (xad (qX Y) 0)), (1, .ref (b 0)), (2, .ref (b 1)), (3, .ref (qb Y)), (4, .int x4), (6, .int x6), (8, .int x8), (9, .int (0 : Int32)), (10, .int x_49), (11, .int x_50)]) (fun _ => rfl) ?_
      exact hr102 σ48 A0 A1 x4 x6 x8 (0 : Int32) x_49 x_50 h
    · refine q_iconst dL_lay_437 rfl ki_1 ?_
      refine q_goto dL_lay_438 rfl ?_
      refine q_istoreV (fun b => [(9, .int (1 : Int32)), (0, .ref (xad (qX Y) 0)), (1, .ref (b 0)), (2, .ref (b 1)), (3, .ref (qb Y)), (4, .int x4), (6, .int x6), (8, .int x8), (10, .int x10), (11, .int x11), (15, .int x15)]) dL_lay_442 rfl (show 9 < 16 by decide) (fun _ => rfl) ?_
      refine q_iinc 8 (fun x_51 => (fun b => [(10, .int x_51), (9, .int (1 : Int32)), (0, .ref (xad (qX Y) 0)), (1, .ref (b 0)), (2, .ref (b 1)), (3, .ref (qb Y)), (4, .int x4), (6, .int x6), (8, .int x8), (11, .int x11), (15, .int x15)])) dL_lay_444 rfl (fun _ => rfl) ki_1 (show 10 < 16 by decide) (fun _ _ => rfl) h (fun x_51 h => ?_)
      refine q_iinc 9 (fun x_52 => (fun b => [(11, .int x_52), (10, .int x_51), (9, .int (1 : Int32)), (0, .ref (xad (qX Y) 0)), (1, .ref (b 0)), (2, .ref (b 1)), (3, .ref (qb Y)), (4, .int x4), (6, .int x6), (8, .int x8), (15, .int x15)])) dL_lay_447 rfl (fun _ => rfl) ki_1 (show 11 < 16 by decide) (fun _ _ => rfl) h (fun x_52 h => ?_)
      refine q_goto dL_lay_450 rfl ?_
      refine q_sub [3, 4, 5, 6, 7, 8, 9, 2, 1, 0] (fun b => [(0, .ref (xad (qX Y) 0)), (1, .ref (b 0)), (2, .ref (b 1)), (3, .ref (qb Y)), (4, .int x4), (6, .int x6), (8, .int x8), (9, .int (1 : Int32)), (10, .int x_51), (11, .int x_52)]) (fun _ => rfl) ?_
      exact hr102 σ48 A0 A1 x4 x6 x8 (1 : Int32) x_51 x_52 h
noncomputable def FL_lay_355 (L : Nat) (xs : Nat → Int32) (rl102 : Mem → (Nat → Int32) → (Nat → Int32) → Int32 → Int32 → Int32 → Int32 → Int32 → Int32 → Option (Int32 × (Nat → Int32) × (Nat → Int32) × Mem)) (σ : Mem) (A0 : Nat → Int32) (A1 : Nat → Int32) (x4 : Int32) (x6 : Int32) (x8 : Int32) (x9 : Int32) (x10 : Int32) (x11 : Int32) (x12 : Int32) (x14 : Int32) (s0 : Int32) : Option (Int32 × (Nat → Int32) × (Nat → Int32) × Mem) :=
  if x14 = 0 then
  (FL_lay_419 L xs rl102 σ A0 A1 x4 x6 x8 x9 x10 x11 s0)
  else
  (rd (2 : Int32) 24 fun j53 =>
  dzI (3 : Int32) <|
  stA ((4 : Int32) + (A0 j53)) 24 A0 (x12 - x12 / (3 : Int32) * (3 : Int32)) fun f54 =>
  rd (2 : Int32) 24 fun j55 =>
  stA ((10 : Int32) + (f54 j55)) 24 f54 x11 fun f56 =>
  rd (2 : Int32) 24 fun j57 =>
  stA (2 : Int32) 24 f56 ((f56 j57) + (1 : Int32)) fun f58 =>
  dzI (3 : Int32) <|
  if (x12 - x12 / (3 : Int32) * (3 : Int32)) = 0 then
  (FL_lay_419 L xs rl102 σ f58 A1 x4 x6 x8 x9 x10 x11 (111 : Int32))
  else
  (dzI (3 : Int32) <|
  if (x12 - x12 / (3 : Int32) * (3 : Int32)) = (1 : Int32) then
  (FL_lay_419 L xs rl102 σ f58 A1 x4 x6 x8 x9 x10 x11 (108 : Int32))
  else
  (FL_lay_419 L xs rl102 σ f58 A1 x4 x6 x8 x9 x10 x11 (100 : Int32))))
set_option maxHeartbeats 4000000 in
set_option maxRecDepth 100000 in
theorem jL_lay_355 {Y : QX} {out : Int32 × (Nat → Int32) × (Nat → Int32) × Mem} (hE : EndQ Y mL_lay .ireturn [0, 1] (some out.2.2.2) [.inl (24, out.2.1), .inl (36, out.2.2.1)] (fun _ => [.int out.1])) (rl102 : Mem → (Nat → Int32) → (Nat → Int32) → Int32 → Int32 → Int32 → Int32 → Int32 → Int32 → Option (Int32 × (Nat → Int32) × (Nat → Int32) × Mem)) (hr102 : ∀ (σ : Mem) (A0 : Nat → Int32) (A1 : Nat → Int32) (x4 : Int32) (x6 : Int32) (x8 : Int32) (x9 : Int32) (x10 : Int32) (x11 : Int32), rl102 σ A0 A1 x4 x6 x8 x9 x10 x11 = some out → JQ Y mL_lay (some σ) [0, 1] [.inl (24, A0), .inl (36, A1)] 0 102 (fun b => [(0, .ref (xad (qX Y) 0)), (1, .ref (b 0)), (2, .ref (b 1)), (3, .ref (qb Y)), (4, .int x4), (6, .int x6), (8, .int x8), (9, .int x9), (10, .int x10), (11, .int x11)]) (fun _ => [])) (σ : Mem) (A0 : Nat → Int32) (A1 : Nat → Int32) (x4 : Int32) (x6 : Int32) (x8 : Int32) (x9 : Int32) (x10 : Int32) (x11 : Int32) (x12 : Int32) (x14 : Int32) (s0 : Int32) (h : FL_lay_355 (qL Y) (qs Y) rl102 σ A0 A1 x4 x6 x8 x9 x10 x11 x12 x14 s0 = some out) : JQ Y mL_lay (some σ) [0, 1] [.inl (24, A0), .inl (36, A1)] 0 355 (fun b => [(0, .ref (xad (qX Y) 0)), (1, .ref (b 0)), (2, .ref (b 1)), (3, .ref (qb Y)), (4, .int x4), (6, .int x6), (8, .int x8), (9, .int x9), (10, .int x10), (11, .int x11), (12, .int x12), (14, .int x14)]) (fun _ => [.int s0]) := by
  refine q_istoreV (fun b => [(15, .int s0), (0, .ref (xad (qX Y) 0)), (1, .ref (b 0)), (2, .ref (b 1)), (3, .ref (qb Y)), (4, .int x4), (6, .int x6), (8, .int x8), (9, .int x9), (10, .int x10), (11, .int x11), (12, .int x12), (14, .int x14)]) dL_lay_355 rfl (show 15 < 16 by decide) (fun _ => rfl) ?_
  refine q_iload 12 dL_lay_357 rfl (fun _ => rfl) ?_
  refine q_if_eq dL_lay_359 rfl rfl h (fun c h => ?_) (fun c h => ?_)
  · refine q_sub [1, 2, 3, 4, 5, 6, 7, 8, 9, 10, 0] (fun b => [(0, .ref (xad (qX Y) 0)), (1, .ref (b 0)), (2, .ref (b 1)), (3, .ref (qb Y)), (4, .int x4), (6, .int x6), (8, .int x8), (9, .int x9), (10, .int x10), (11, .int x11), (15, .int s0)]) (fun _ => rfl) ?_
    exact jL_lay_419 hE rl102 hr102 σ A0 A1 x4 x6 x8 x9 x10 x11 s0 h
  · refine q_aload_n 2 (fun b => b 0) dL_lay_362 rfl rfl (fun _ => rfl) ?_
    refine q_iconst dL_lay_363 rfl ki_4 ?_
    refine q_aload_n 2 (fun b => b 0) dL_lay_364 rfl rfl (fun _ => rfl) ?_
    refine q_iconst dL_lay_365 rfl ki_2 ?_
    refine q_iald 0 24 A0 rfl dL_lay_366 rfl h (fun j53 h => ?_)
    refine q_iadd dL_lay_367 rfl ?_
    refine q_iload 11 dL_lay_368 rfl (fun _ => rfl) ?_
    refine q_iconst dL_lay_370 rfl ki_3 ?_
    refine q_irem dL_lay_371 rfl h (fun h => ?_)
    refine q_iast 0 24 A0 (fun f54 => [.inl (24, f54), .inl (36, A1)]) rfl (fun _ => rfl) dL_lay_372 rfl h (fun f54 h => ?_)
    refine q_aload_n 2 (fun b => b 0) dL_lay_373 rfl rfl (fun _ => rfl) ?_
    refine q_bipush dL_lay_374 rfl kb_10 ?_
    refine q_aload_n 2 (fun b => b 0) dL_lay_376 rfl rfl (fun _ => rfl) ?_
    refine q_iconst dL_lay_377 rfl ki_2 ?_
    refine q_iald 0 24 f54 rfl dL_lay_378 rfl h (fun j55 h => ?_)
    refine q_iadd dL_lay_379 rfl ?_
    refine q_iload 10 dL_lay_380 rfl (fun _ => rfl) ?_
    refine q_iast 0 24 f54 (fun f56 => [.inl (24, f56), .inl (36, A1)]) rfl (fun _ => rfl) dL_lay_382 rfl h (fun f56 h => ?_)
    refine q_aload_n 2 (fun b => b 0) dL_lay_383 rfl rfl (fun _ => rfl) ?_
    refine q_iconst dL_lay_384 rfl ki_2 ?_
    refine q_dup2 (v := fun b => .int (2 : Int32)) (w := fun b => .ref (b 0)) dL_lay_385 rfl (fun _ => rfl) (fun _ => rfl) ?_
    refine q_iald 0 24 f56 rfl dL_lay_386 rfl h (fun j57 h => ?_)
    refine q_iconst dL_lay_387 rfl ki_1 ?_
    refine q_iadd dL_lay_388 rfl ?_
    refine q_iast 0 24 f56 (fun f58 => [.inl (24, f58), .inl (36, A1)]) rfl (fun _ => rfl) dL_lay_389 rfl h (fun f58 h => ?_)
    refine q_iload 11 dL_lay_390 rfl (fun _ => rfl) ?_
    refine q_iconst dL_lay_392 rfl ki_3 ?_
    refine q_irem dL_lay_393 rfl h (fun h => ?_)
    refine q_if_ne dL_lay_394 rfl rfl h (fun c h => ?_) (fun c h => ?_)
    · refine q_iload 11 dL_lay_402 rfl (fun _ => rfl) ?_
      refine q_iconst dL_lay_404 rfl ki_3 ?_
      refine q_irem dL_lay_405 rfl h (fun h => ?_)
      refine q_iconst dL_lay_406 rfl ki_1 ?_
      refine q_icmp_ne dL_lay_407 rfl rfl h (fun c h => ?_) (fun c h => ?_)
      · refine q_bipush dL_lay_415 rfl kb_100 ?_
        refine q_istoreV (fun b => [(15, .int (100 : Int32)), (0, .ref (xad (qX Y) 0)), (1, .ref (b 0)), (2, .ref (b 1)), (3, .ref (qb Y)), (4, .int x4), (6, .int x6), (8, .int x8), (9, .int x9), (10, .int x10), (11, .int x11), (12, .int x12), (14, .int x14)]) dL_lay_417 rfl (show 15 < 16 by decide) (fun _ => rfl) ?_
        refine q_sub [1, 2, 3, 4, 5, 6, 7, 8, 9, 10, 0] (fun b => [(0, .ref (xad (qX Y) 0)), (1, .ref (b 0)), (2, .ref (b 1)), (3, .ref (qb Y)), (4, .int x4), (6, .int x6), (8, .int x8), (9, .int x9), (10, .int x10), (11, .int x11), (15, .int (100 : Int32))]) (fun _ => rfl) ?_
        exact jL_lay_419 hE rl102 hr102 σ f58 A1 x4 x6 x8 x9 x10 x11 (100 : Int32) h
      · refine q_bipush dL_lay_410 rfl kb_108 ?_
        refine q_goto dL_lay_412 rfl ?_
        refine q_istoreV (fun b => [(15, .int (108 : Int32)), (0, .ref (xad (qX Y) 0)), (1, .ref (b 0)), (2, .ref (b 1)), (3, .ref (qb Y)), (4, .int x4), (6, .int x6), (8, .int x8), (9, .int x9), (10, .int x10), (11, .int x11), (12, .int x12), (14, .int x14)]) dL_lay_417 rfl (show 15 < 16 by decide) (fun _ => rfl) ?_
        refine q_sub [1, 2, 3, 4, 5, 6, 7, 8, 9, 10, 0] (fun b => [(0, .ref (xad (qX Y) 0)), (1, .ref (b 0)), (2, .ref (b 1)), (3, .ref (qb Y)), (4, .int x4), (6, .int x6), (8, .int x8), (9, .int x9), (10, .int x10), (11, .int x11), (15, .int (108 : Int32))]) (fun _ => rfl) ?_
        exact jL_lay_419 hE rl102 hr102 σ f58 A1 x4 x6 x8 x9 x10 x11 (108 : Int32) h
    · refine q_bipush dL_lay_397 rfl kb_111 ?_
      refine q_goto dL_lay_399 rfl ?_
      refine q_istoreV (fun b => [(15, .int (111 : Int32)), (0, .ref (xad (qX Y) 0)), (1, .ref (b 0)), (2, .ref (b 1)), (3, .ref (qb Y)), (4, .int x4), (6, .int x6), (8, .int x8), (9, .int x9), (10, .int x10), (11, .int x11), (12, .int x12), (14, .int x14)]) dL_lay_417 rfl (show 15 < 16 by decide) (fun _ => rfl) ?_
      refine q_sub [1, 2, 3, 4, 5, 6, 7, 8, 9, 10, 0] (fun b => [(0, .ref (xad (qX Y) 0)), (1, .ref (b 0)), (2, .ref (b 1)), (3, .ref (qb Y)), (4, .int x4), (6, .int x6), (8, .int x8), (9, .int x9), (10, .int x10), (11, .int x11), (15, .int (111 : Int32))]) (fun _ => rfl) ?_
      exact jL_lay_419 hE rl102 hr102 σ f58 A1 x4 x6 x8 x9 x10 x11 (111 : Int32) h
noncomputable def FL_lay_296 (L : Nat) (xs : Nat → Int32) (rl102 : Mem → (Nat → Int32) → (Nat → Int32) → Int32 → Int32 → Int32 → Int32 → Int32 → Int32 → Option (Int32 × (Nat → Int32) × (Nat → Int32) × Mem)) (σ : Mem) (A0 : Nat → Int32) (A1 : Nat → Int32) (x4 : Int32) (x6 : Int32) (x9 : Int32) (x10 : Int32) (x11 : Int32) (x12 : Int32) (x13 : Int32) (x14 : Int32) (s0 : Int32) (s1 : Int32) : Option (Int32 × (Nat → Int32) × (Nat → Int32) × Mem) :=
  nm (s1 + s0) fun x_59 =>
  if x13 = 0 then
  (FL_lay_355 L xs rl102 σ A0 A1 x4 x6 x_59 x9 x10 x11 x12 x14 (46 : Int32))
  else
  (if x13 = (1 : Int32) then
  (FL_lay_355 L xs rl102 σ A0 A1 x4 x6 x_59 x9 x10 x11 x12 x14 (35 : Int32))
  else
  (if x13 = (2 : Int32) then
  (FL_lay_355 L xs rl102 σ A0 A1 x4 x6 x_59 x9 x10 x11 x12 x14 (115 : Int32))
  else
  (if x13 = (3 : Int32) then
  (FL_lay_355 L xs rl102 σ A0 A1 x4 x6 x_59 x9 x10 x11 x12 x14 (99 : Int32))
  else
  (if x13 = (4 : Int32) then
  (FL_lay_355 L xs rl102 σ A0 A1 x4 x6 x_59 x9 x10 x11 x12 x14 (97 : Int32))
  else
  (FL_lay_355 L xs rl102 σ A0 A1 x4 x6 x_59 x9 x10 x11 x12 x14 (98 : Int32))))))
set_option maxHeartbeats 4000000 in
set_option maxRecDepth 100000 in
theorem jL_lay_296 {Y : QX} {out : Int32 × (Nat → Int32) × (Nat → Int32) × Mem} (hE : EndQ Y mL_lay .ireturn [0, 1] (some out.2.2.2) [.inl (24, out.2.1), .inl (36, out.2.2.1)] (fun _ => [.int out.1])) (rl102 : Mem → (Nat → Int32) → (Nat → Int32) → Int32 → Int32 → Int32 → Int32 → Int32 → Int32 → Option (Int32 × (Nat → Int32) × (Nat → Int32) × Mem)) (hr102 : ∀ (σ : Mem) (A0 : Nat → Int32) (A1 : Nat → Int32) (x4 : Int32) (x6 : Int32) (x8 : Int32) (x9 : Int32) (x10 : Int32) (x11 : Int32), rl102 σ A0 A1 x4 x6 x8 x9 x10 x11 = some out → JQ Y mL_lay (some σ) [0, 1] [.inl (24, A0), .inl (36, A1)] 0 102 (fun b => [(0, .ref (xad (qX Y) 0)), (1, .ref (b 0)), (2, .ref (b 1)), (3, .ref (qb Y)), (4, .int x4), (6, .int x6), (8, .int x8), (9, .int x9), (10, .int x10), (11, .int x11)]) (fun _ => [])) (σ : Mem) (A0 : Nat → Int32) (A1 : Nat → Int32) (x4 : Int32) (x6 : Int32) (x9 : Int32) (x10 : Int32) (x11 : Int32) (x12 : Int32) (x13 : Int32) (x14 : Int32) (s0 : Int32) (s1 : Int32) (h : FL_lay_296 (qL Y) (qs Y) rl102 σ A0 A1 x4 x6 x9 x10 x11 x12 x13 x14 s0 s1 = some out) : JQ Y mL_lay (some σ) [0, 1] [.inl (24, A0), .inl (36, A1)] 0 296 (fun b => [(0, .ref (xad (qX Y) 0)), (1, .ref (b 0)), (2, .ref (b 1)), (3, .ref (qb Y)), (4, .int x4), (6, .int x6), (9, .int x9), (10, .int x10), (11, .int x11), (12, .int x12), (13, .int x13), (14, .int x14)]) (fun _ => [.int s0, .int s1]) := by
  refine q_iadd dL_lay_296 rfl ?_
  refine q_istore (fun x_59 => (fun b => [(8, .int x_59), (0, .ref (xad (qX Y) 0)), (1, .ref (b 0)), (2, .ref (b 1)), (3, .ref (qb Y)), (4, .int x4), (6, .int x6), (9, .int x9), (10, .int x10), (11, .int x11), (12, .int x12), (13, .int x13), (14, .int x14)])) dL_lay_297 rfl (show 8 < 16 by decide) (fun _ _ => rfl) h (fun x_59 h => ?_)
  refine q_iload 11 dL_lay_299 rfl (fun _ => rfl) ?_
  refine q_if_ne dL_lay_301 rfl rfl h (fun c h => ?_) (fun c h => ?_)
  · refine q_iload 11 dL_lay_309 rfl (fun _ => rfl) ?_
    refine q_iconst dL_lay_311 rfl ki_1 ?_
    refine q_icmp_ne dL_lay_312 rfl rfl h (fun c h => ?_) (fun c h => ?_)
    · refine q_iload 11 dL_lay_320 rfl (fun _ => rfl) ?_
      refine q_iconst dL_lay_322 rfl ki_2 ?_
      refine q_icmp_ne dL_lay_323 rfl rfl h (fun c h => ?_) (fun c h => ?_)
      · refine q_iload 11 dL_lay_331 rfl (fun _ => rfl) ?_
        refine q_iconst dL_lay_333 rfl ki_3 ?_
        refine q_icmp_ne dL_lay_334 rfl rfl h (fun c h => ?_) (fun c h => ?_)
        · refine q_iload 11 dL_lay_342 rfl (fun _ => rfl) ?_
          refine q_iconst dL_lay_344 rfl ki_4 ?_
          refine q_icmp_ne dL_lay_345 rfl rfl h (fun c h => ?_) (fun c h => ?_)
          · refine q_bipush dL_lay_353 rfl kb_98 ?_
            refine q_sub [1, 2, 3, 4, 5, 6, 0, 7, 8, 9, 10, 12] (fun b => [(0, .ref (xad (qX Y) 0)), (1, .ref (b 0)), (2, .ref (b 1)), (3, .ref (qb Y)), (4, .int x4), (6, .int x6), (8, .int x_59), (9, .int x9), (10, .int x10), (11, .int x11), (12, .int x12), (14, .int x14)]) (fun _ => rfl) ?_
            exact jL_lay_355 hE rl102 hr102 σ A0 A1 x4 x6 x_59 x9 x10 x11 x12 x14 (98 : Int32) h
          · refine q_bipush dL_lay_348 rfl kb_97 ?_
            refine q_goto dL_lay_350 rfl ?_
            refine q_sub [1, 2, 3, 4, 5, 6, 0, 7, 8, 9, 10, 12] (fun b => [(0, .ref (xad (qX Y) 0)), (1, .ref (b 0)), (2, .ref (b 1)), (3, .ref (qb Y)), (4, .int x4), (6, .int x6), (8, .int x_59), (9, .int x9), (10, .int x10), (11, .int x11), (12, .int x12), (14, .int x14)]) (fun _ => rfl) ?_
            exact jL_lay_355 hE rl102 hr102 σ A0 A1 x4 x6 x_59 x9 x10 x11 x12 x14 (97 : Int32) h
        · refine q_bipush dL_lay_337 rfl kb_99 ?_
          refine q_goto dL_lay_339 rfl ?_
          refine q_sub [1, 2, 3, 4, 5, 6, 0, 7, 8, 9, 10, 12] (fun b => [(0, .ref (xad (qX Y) 0)), (1, .ref (b 0)), (2, .ref (b 1)), (3, .ref (qb Y)), (4, .int x4), (6, .int x6), (8, .int x_59), (9, .int x9), (10, .int x10), (11, .int x11), (12, .int x12), (14, .int x14)]) (fun _ => rfl) ?_
          exact jL_lay_355 hE rl102 hr102 σ A0 A1 x4 x6 x_59 x9 x10 x11 x12 x14 (99 : Int32) h
      · refine q_bipush dL_lay_326 rfl kb_115 ?_
        refine q_goto dL_lay_328 rfl ?_
        refine q_sub [1, 2, 3, 4, 5, 6, 0, 7, 8, 9, 10, 12] (fun b => [(0, .ref (xad (qX Y) 0)), (1, .ref (b 0)), (2, .ref (b 1)), (3, .ref (qb Y)), (4, .int x4), (6, .int x6), (8, .int x_59), (9, .int x9), (10, .int x10), (11, .int x11), (12, .int x12), (14, .int x14)]) (fun _ => rfl) ?_
        exact jL_lay_355 hE rl102 hr102 σ A0 A1 x4 x6 x_59 x9 x10 x11 x12 x14 (115 : Int32) h
    · refine q_bipush dL_lay_315 rfl kb_35 ?_
      refine q_goto dL_lay_317 rfl ?_
      refine q_sub [1, 2, 3, 4, 5, 6, 0, 7, 8, 9, 10, 12] (fun b => [(0, .ref (xad (qX Y) 0)), (1, .ref (b 0)), (2, .ref (b 1)), (3, .ref (qb Y)), (4, .int x4), (6, .int x6), (8, .int x_59), (9, .int x9), (10, .int x10), (11, .int x11), (12, .int x12), (14, .int x14)]) (fun _ => rfl) ?_
      exact jL_lay_355 hE rl102 hr102 σ A0 A1 x4 x6 x_59 x9 x10 x11 x12 x14 (35 : Int32) h
  · refine q_bipush dL_lay_304 rfl kb_46 ?_
    refine q_goto dL_lay_306 rfl ?_
    refine q_sub [1, 2, 3, 4, 5, 6, 0, 7, 8, 9, 10, 12] (fun b => [(0, .ref (xad (qX Y) 0)), (1, .ref (b 0)), (2, .ref (b 1)), (3, .ref (qb Y)), (4, .int x4), (6, .int x6), (8, .int x_59), (9, .int x9), (10, .int x10), (11, .int x11), (12, .int x12), (14, .int x14)]) (fun _ => rfl) ?_
    exact jL_lay_355 hE rl102 hr102 σ A0 A1 x4 x6 x_59 x9 x10 x11 x12 x14 (46 : Int32) h
noncomputable def FL_lay_275 (L : Nat) (xs : Nat → Int32) (rl102 : Mem → (Nat → Int32) → (Nat → Int32) → Int32 → Int32 → Int32 → Int32 → Int32 → Int32 → Option (Int32 × (Nat → Int32) × (Nat → Int32) × Mem)) (σ : Mem) (A0 : Nat → Int32) (A1 : Nat → Int32) (x4 : Int32) (x6 : Int32) (x8 : Int32) (x9 : Int32) (x10 : Int32) (x11 : Int32) (x12 : Int32) (x13 : Int32) (s0 : Int32) : Option (Int32 × (Nat → Int32) × (Nat → Int32) × Mem) :=
  stA x11 36 A1 x13 fun f60 =>
  if x13 = (3 : Int32) then
  (FL_lay_296 L xs rl102 σ A0 f60 x4 x6 x9 x10 x11 x12 x13 s0 (1 : Int32) x8)
  else
  (FL_lay_296 L xs rl102 σ A0 f60 x4 x6 x9 x10 x11 x12 x13 s0 (0 : Int32) x8)
set_option maxHeartbeats 4000000 in
set_option maxRecDepth 100000 in
theorem jL_lay_275 {Y : QX} {out : Int32 × (Nat → Int32) × (Nat → Int32) × Mem} (hE : EndQ Y mL_lay .ireturn [0, 1] (some out.2.2.2) [.inl (24, out.2.1), .inl (36, out.2.2.1)] (fun _ => [.int out.1])) (rl102 : Mem → (Nat → Int32) → (Nat → Int32) → Int32 → Int32 → Int32 → Int32 → Int32 → Int32 → Option (Int32 × (Nat → Int32) × (Nat → Int32) × Mem)) (hr102 : ∀ (σ : Mem) (A0 : Nat → Int32) (A1 : Nat → Int32) (x4 : Int32) (x6 : Int32) (x8 : Int32) (x9 : Int32) (x10 : Int32) (x11 : Int32), rl102 σ A0 A1 x4 x6 x8 x9 x10 x11 = some out → JQ Y mL_lay (some σ) [0, 1] [.inl (24, A0), .inl (36, A1)] 0 102 (fun b => [(0, .ref (xad (qX Y) 0)), (1, .ref (b 0)), (2, .ref (b 1)), (3, .ref (qb Y)), (4, .int x4), (6, .int x6), (8, .int x8), (9, .int x9), (10, .int x10), (11, .int x11)]) (fun _ => [])) (σ : Mem) (A0 : Nat → Int32) (A1 : Nat → Int32) (x4 : Int32) (x6 : Int32) (x8 : Int32) (x9 : Int32) (x10 : Int32) (x11 : Int32) (x12 : Int32) (x13 : Int32) (s0 : Int32) (h : FL_lay_275 (qL Y) (qs Y) rl102 σ A0 A1 x4 x6 x8 x9 x10 x11 x12 x13 s0 = some out) : JQ Y mL_lay (some σ) [0, 1] [.inl (24, A0), .inl (36, A1)] 0 275 (fun b => [(0, .ref (xad (qX Y) 0)), (1, .ref (b 0)), (2, .ref (b 1)), (3, .ref (qb Y)), (4, .int x4), (6, .int x6), (8, .int x8), (9, .int x9), (10, .int x10), (11, .int x11), (12, .int x12), (13, .int x13)]) (fun _ => [.int s0]) := by
  refine q_istoreV (fun b => [(14, .int s0), (0, .ref (xad (qX Y) 0)), (1, .ref (b 0)), (2, .ref (b 1)), (3, .ref (qb Y)), (4, .int x4), (6, .int x6), (8, .int x8), (9, .int x9), (10, .int x10), (11, .int x11), (12, .int x12), (13, .int x13)]) dL_lay_275 rfl (show 14 < 16 by decide) (fun _ => rfl) ?_
  refine q_aload_n 3 (fun b => b 1) dL_lay_277 rfl rfl (fun _ => rfl) ?_
  refine q_iload 10 dL_lay_278 rfl (fun _ => rfl) ?_
  refine q_iload 12 dL_lay_280 rfl (fun _ => rfl) ?_
  refine q_iast 1 36 A1 (fun f60 => [.inl (24, A0), .inl (36, f60)]) rfl (fun _ => rfl) dL_lay_282 rfl h (fun f60 h => ?_)
  refine q_iload 7 dL_lay_283 rfl (fun _ => rfl) ?_
  refine q_iload 12 dL_lay_285 rfl (fun _ => rfl) ?_
  refine q_iconst dL_lay_287 rfl ki_3 ?_
  refine q_icmp_ne dL_lay_288 rfl rfl h (fun c h => ?_) (fun c h => ?_)
  · refine q_iconst dL_lay_295 rfl ki_0 ?_
    refine q_sub [1, 2, 3, 4, 5, 6, 8, 9, 10, 11, 12, 0] (fun b => [(0, .ref (xad (qX Y) 0)), (1, .ref (b 0)), (2, .ref (b 1)), (3, .ref (qb Y)), (4, .int x4), (6, .int x6), (9, .int x9), (10, .int x10), (11, .int x11), (12, .int x12), (13, .int x13), (14, .int s0)]) (fun _ => rfl) ?_
    exact jL_lay_296 hE rl102 hr102 σ A0 f60 x4 x6 x9 x10 x11 x12 x13 s0 (0 : Int32) x8 h
  · refine q_iconst dL_lay_291 rfl ki_1 ?_
    refine q_goto dL_lay_292 rfl ?_
    refine q_sub [1, 2, 3, 4, 5, 6, 8, 9, 10, 11, 12, 0] (fun b => [(0, .ref (xad (qX Y) 0)), (1, .ref (b 0)), (2, .ref (b 1)), (3, .ref (qb Y)), (4, .int x4), (6, .int x6), (9, .int x9), (10, .int x10), (11, .int x11), (12, .int x12), (13, .int x13), (14, .int s0)]) (fun _ => rfl) ?_
    exact jL_lay_296 hE rl102 hr102 σ A0 f60 x4 x6 x9 x10 x11 x12 x13 s0 (1 : Int32) x8 h
noncomputable def FL_lay_253 (L : Nat) (xs : Nat → Int32) (rl102 : Mem → (Nat → Int32) → (Nat → Int32) → Int32 → Int32 → Int32 → Int32 → Int32 → Int32 → Option (Int32 × (Nat → Int32) × (Nat → Int32) × Mem)) (σ : Mem) (A0 : Nat → Int32) (A1 : Nat → Int32) (x4 : Int32) (x6 : Int32) (x8 : Int32) (x9 : Int32) (x10 : Int32) (x11 : Int32) (x12 : Int32) (s0 : Int32) : Option (Int32 × (Nat → Int32) × (Nat → Int32) × Mem) :=
  if x12 ≤ (25 : Int32) then
  (FL_lay_275 L xs rl102 σ A0 A1 x4 x6 x8 x9 x10 x11 x12 s0 (0 : Int32))
  else
  (rd (2 : Int32) 24 fun j61 =>
  if x6 ≤ (A0 j61) then
  (FL_lay_275 L xs rl102 σ A0 A1 x4 x6 x8 x9 x10 x11 x12 s0 (0 : Int32))
  else
  (FL_lay_275 L xs rl102 σ A0 A1 x4 x6 x8 x9 x10 x11 x12 s0 (1 : Int32)))
set_option maxHeartbeats 4000000 in
set_option maxRecDepth 100000 in
theorem jL_lay_253 {Y : QX} {out : Int32 × (Nat → Int32) × (Nat → Int32) × Mem} (hE : EndQ Y mL_lay .ireturn [0, 1] (some out.2.2.2) [.inl (24, out.2.1), .inl (36, out.2.2.1)] (fun _ => [.int out.1])) (rl102 : Mem → (Nat → Int32) → (Nat → Int32) → Int32 → Int32 → Int32 → Int32 → Int32 → Int32 → Option (Int32 × (Nat → Int32) × (Nat → Int32) × Mem)) (hr102 : ∀ (σ : Mem) (A0 : Nat → Int32) (A1 : Nat → Int32) (x4 : Int32) (x6 : Int32) (x8 : Int32) (x9 : Int32) (x10 : Int32) (x11 : Int32), rl102 σ A0 A1 x4 x6 x8 x9 x10 x11 = some out → JQ Y mL_lay (some σ) [0, 1] [.inl (24, A0), .inl (36, A1)] 0 102 (fun b => [(0, .ref (xad (qX Y) 0)), (1, .ref (b 0)), (2, .ref (b 1)), (3, .ref (qb Y)), (4, .int x4), (6, .int x6), (8, .int x8), (9, .int x9), (10, .int x10), (11, .int x11)]) (fun _ => [])) (σ : Mem) (A0 : Nat → Int32) (A1 : Nat → Int32) (x4 : Int32) (x6 : Int32) (x8 : Int32) (x9 : Int32) (x10 : Int32) (x11 : Int32) (x12 : Int32) (s0 : Int32) (h : FL_lay_253 (qL Y) (qs Y) rl102 σ A0 A1 x4 x6 x8 x9 x10 x11 x12 s0 = some out) : JQ Y mL_lay (some σ) [0, 1] [.inl (24, A0), .inl (36, A1)] 0 253 (fun b => [(0, .ref (xad (qX Y) 0)), (1, .ref (b 0)), (2, .ref (b 1)), (3, .ref (qb Y)), (4, .int x4), (6, .int x6), (8, .int x8), (9, .int x9), (10, .int x10), (11, .int x11), (12, .int x12)]) (fun _ => [.int s0]) := by
  refine q_istoreV (fun b => [(13, .int s0), (0, .ref (xad (qX Y) 0)), (1, .ref (b 0)), (2, .ref (b 1)), (3, .ref (qb Y)), (4, .int x4), (6, .int x6), (8, .int x8), (9, .int x9), (10, .int x10), (11, .int x11), (12, .int x12)]) dL_lay_253 rfl (show 13 < 16 by decide) (fun _ => rfl) ?_
  refine q_iload 11 dL_lay_255 rfl (fun _ => rfl) ?_
  refine q_bipush dL_lay_257 rfl kb_25 ?_
  refine q_icmp_le dL_lay_259 rfl rfl h (fun c h => ?_) (fun c h => ?_)
  · refine q_iconst dL_lay_274 rfl ki_0 ?_
    refine q_sub [1, 2, 3, 4, 5, 6, 7, 8, 9, 10, 11, 0] (fun b => [(0, .ref (xad (qX Y) 0)), (1, .ref (b 0)), (2, .ref (b 1)), (3, .ref (qb Y)), (4, .int x4), (6, .int x6), (8, .int x8), (9, .int x9), (10, .int x10), (11, .int x11), (12, .int x12), (13, .int s0)]) (fun _ => rfl) ?_
    exact jL_lay_275 hE rl102 hr102 σ A0 A1 x4 x6 x8 x9 x10 x11 x12 s0 (0 : Int32) h
  · refine q_aload_n 2 (fun b => b 0) dL_lay_262 rfl rfl (fun _ => rfl) ?_
    refine q_iconst dL_lay_263 rfl ki_2 ?_
    refine q_iald 0 24 A0 rfl dL_lay_264 rfl h (fun j61 h => ?_)
    refine q_iload 6 dL_lay_265 rfl (fun _ => rfl) ?_
    refine q_icmp_ge dL_lay_267 rfl rfl h (fun c h => ?_) (fun c h => ?_)
    · refine q_iconst dL_lay_274 rfl ki_0 ?_
      refine q_sub [1, 2, 3, 4, 5, 6, 7, 8, 9, 10, 11, 0] (fun b => [(0, .ref (xad (qX Y) 0)), (1, .ref (b 0)), (2, .ref (b 1)), (3, .ref (qb Y)), (4, .int x4), (6, .int x6), (8, .int x8), (9, .int x9), (10, .int x10), (11, .int x11), (12, .int x12), (13, .int s0)]) (fun _ => rfl) ?_
      exact jL_lay_275 hE rl102 hr102 σ A0 A1 x4 x6 x8 x9 x10 x11 x12 s0 (0 : Int32) h
    · refine q_iconst dL_lay_270 rfl ki_1 ?_
      refine q_goto dL_lay_271 rfl ?_
      refine q_sub [1, 2, 3, 4, 5, 6, 7, 8, 9, 10, 11, 0] (fun b => [(0, .ref (xad (qX Y) 0)), (1, .ref (b 0)), (2, .ref (b 1)), (3, .ref (qb Y)), (4, .int x4), (6, .int x6), (8, .int x8), (9, .int x9), (10, .int x10), (11, .int x11), (12, .int x12), (13, .int s0)]) (fun _ => rfl) ?_
      exact jL_lay_275 hE rl102 hr102 σ A0 A1 x4 x6 x8 x9 x10 x11 x12 s0 (1 : Int32) h
noncomputable def FL_lay_230 (L : Nat) (xs : Nat → Int32) (rl102 : Mem → (Nat → Int32) → (Nat → Int32) → Int32 → Int32 → Int32 → Int32 → Int32 → Int32 → Option (Int32 × (Nat → Int32) × (Nat → Int32) × Mem)) (σ : Mem) (A0 : Nat → Int32) (A1 : Nat → Int32) (x4 : Int32) (x6 : Int32) (x8 : Int32) (x9 : Int32) (x10 : Int32) (x11 : Int32) (x12 : Int32) : Option (Int32 × (Nat → Int32) × (Nat → Int32) × Mem) :=
  if x12 = (21 : Int32) then
  (FL_lay_253 L xs rl102 σ A0 A1 x4 x6 x8 x9 x10 x11 x12 (4 : Int32))
  else
  (if x12 = (22 : Int32) then
  (FL_lay_253 L xs rl102 σ A0 A1 x4 x6 x8 x9 x10 x11 x12 (5 : Int32))
  else
  (FL_lay_253 L xs rl102 σ A0 A1 x4 x6 x8 x9 x10 x11 x12 (0 : Int32)))
set_option maxHeartbeats 4000000 in
set_option maxRecDepth 100000 in
theorem jL_lay_230 {Y : QX} {out : Int32 × (Nat → Int32) × (Nat → Int32) × Mem} (hE : EndQ Y mL_lay .ireturn [0, 1] (some out.2.2.2) [.inl (24, out.2.1), .inl (36, out.2.2.1)] (fun _ => [.int out.1])) (rl102 : Mem → (Nat → Int32) → (Nat → Int32) → Int32 → Int32 → Int32 → Int32 → Int32 → Int32 → Option (Int32 × (Nat → Int32) × (Nat → Int32) × Mem)) (hr102 : ∀ (σ : Mem) (A0 : Nat → Int32) (A1 : Nat → Int32) (x4 : Int32) (x6 : Int32) (x8 : Int32) (x9 : Int32) (x10 : Int32) (x11 : Int32), rl102 σ A0 A1 x4 x6 x8 x9 x10 x11 = some out → JQ Y mL_lay (some σ) [0, 1] [.inl (24, A0), .inl (36, A1)] 0 102 (fun b => [(0, .ref (xad (qX Y) 0)), (1, .ref (b 0)), (2, .ref (b 1)), (3, .ref (qb Y)), (4, .int x4), (6, .int x6), (8, .int x8), (9, .int x9), (10, .int x10), (11, .int x11)]) (fun _ => [])) (σ : Mem) (A0 : Nat → Int32) (A1 : Nat → Int32) (x4 : Int32) (x6 : Int32) (x8 : Int32) (x9 : Int32) (x10 : Int32) (x11 : Int32) (x12 : Int32) (h : FL_lay_230 (qL Y) (qs Y) rl102 σ A0 A1 x4 x6 x8 x9 x10 x11 x12 = some out) : JQ Y mL_lay (some σ) [0, 1] [.inl (24, A0), .inl (36, A1)] 0 230 (fun b => [(0, .ref (xad (qX Y) 0)), (1, .ref (b 0)), (2, .ref (b 1)), (3, .ref (qb Y)), (4, .int x4), (6, .int x6), (8, .int x8), (9, .int x9), (10, .int x10), (11, .int x11), (12, .int x12)]) (fun _ => []) := by
  refine q_iload 10 dL_lay_230 rfl (fun _ => rfl) ?_
  refine q_bipush dL_lay_232 rfl kb_21 ?_
  refine q_icmp_ne dL_lay_234 rfl rfl h (fun c h => ?_) (fun c h => ?_)
  · refine q_iload 10 dL_lay_241 rfl (fun _ => rfl) ?_
    refine q_bipush dL_lay_243 rfl kb_22 ?_
    refine q_icmp_ne dL_lay_245 rfl rfl h (fun c h => ?_) (fun c h => ?_)
    · refine q_iconst dL_lay_252 rfl ki_0 ?_
      exact jL_lay_253 hE rl102 hr102 σ A0 A1 x4 x6 x8 x9 x10 x11 x12 (0 : Int32) h
    · refine q_iconst dL_lay_248 rfl ki_5 ?_
      refine q_goto dL_lay_249 rfl ?_
      exact jL_lay_253 hE rl102 hr102 σ A0 A1 x4 x6 x8 x9 x10 x11 x12 (5 : Int32) h
  · refine q_iconst dL_lay_237 rfl ki_4 ?_
    refine q_goto dL_lay_238 rfl ?_
    exact jL_lay_253 hE rl102 hr102 σ A0 A1 x4 x6 x8 x9 x10 x11 x12 (4 : Int32) h
noncomputable def FL_lay_151 (L : Nat) (xs : Nat → Int32) (rl102 : Mem → (Nat → Int32) → (Nat → Int32) → Int32 → Int32 → Int32 → Int32 → Int32 → Int32 → Option (Int32 × (Nat → Int32) × (Nat → Int32) × Mem)) (σ : Mem) (A0 : Nat → Int32) (A1 : Nat → Int32) (x4 : Int32) (x6 : Int32) (x8 : Int32) (x9 : Int32) (x10 : Int32) (x11 : Int32) : Option (Int32 × (Nat → Int32) × (Nat → Int32) × Mem) :=
  dzI (6 : Int32) <|
  bn (FL_cell L xs ((x4 + (1 : Int32)) + (x11 / (6 : Int32)))) fun o62 =>
  dzI (6 : Int32) <|
  bn (FL_low (o62 >>> (((5 : Int32) * (x11 - x11 / (6 : Int32) * (6 : Int32))) &&& 31)) (32 : Int32)) fun o63 =>
  if (14 : Int32) ≤ o63 then
  (if (17 : Int32) ≤ o63 then
  (if (19 : Int32) ≤ o63 then
  (if (21 : Int32) ≤ o63 then
  (FL_lay_230 L xs rl102 σ A0 A1 x4 x6 x8 x9 x10 x11 o63)
  else
  (if (4 : Int32) ≤ x8 then
  (FL_lay_230 L xs rl102 σ A0 A1 x4 x6 x8 x9 x10 x11 o63)
  else
  (FL_lay_253 L xs rl102 σ A0 A1 x4 x6 x8 x9 x10 x11 o63 (3 : Int32))))
  else
  (FL_lay_253 L xs rl102 σ A0 A1 x4 x6 x8 x9 x10 x11 o63 (2 : Int32)))
  else
  (FL_lay_253 L xs rl102 σ A0 A1 x4 x6 x8 x9 x10 x11 o63 (1 : Int32)))
  else
  (FL_lay_253 L xs rl102 σ A0 A1 x4 x6 x8 x9 x10 x11 o63 (0 : Int32))
set_option maxHeartbeats 4000000 in
set_option maxRecDepth 100000 in
theorem jL_lay_151 {Y : QX} {out : Int32 × (Nat → Int32) × (Nat → Int32) × Mem} (hE : EndQ Y mL_lay .ireturn [0, 1] (some out.2.2.2) [.inl (24, out.2.1), .inl (36, out.2.2.1)] (fun _ => [.int out.1])) (rl102 : Mem → (Nat → Int32) → (Nat → Int32) → Int32 → Int32 → Int32 → Int32 → Int32 → Int32 → Option (Int32 × (Nat → Int32) × (Nat → Int32) × Mem)) (hr102 : ∀ (σ : Mem) (A0 : Nat → Int32) (A1 : Nat → Int32) (x4 : Int32) (x6 : Int32) (x8 : Int32) (x9 : Int32) (x10 : Int32) (x11 : Int32), rl102 σ A0 A1 x4 x6 x8 x9 x10 x11 = some out → JQ Y mL_lay (some σ) [0, 1] [.inl (24, A0), .inl (36, A1)] 0 102 (fun b => [(0, .ref (xad (qX Y) 0)), (1, .ref (b 0)), (2, .ref (b 1)), (3, .ref (qb Y)), (4, .int x4), (6, .int x6), (8, .int x8), (9, .int x9), (10, .int x10), (11, .int x11)]) (fun _ => [])) (σ : Mem) (A0 : Nat → Int32) (A1 : Nat → Int32) (x4 : Int32) (x6 : Int32) (x8 : Int32) (x9 : Int32) (x10 : Int32) (x11 : Int32) (h : FL_lay_151 (qL Y) (qs Y) rl102 σ A0 A1 x4 x6 x8 x9 x10 x11 = some out) : JQ Y mL_lay (some σ) [0, 1] [.inl (24, A0), .inl (36, A1)] 0 151 (fun b => [(0, .ref (xad (qX Y) 0)), (1, .ref (b 0)), (2, .ref (b 1)), (3, .ref (qb Y)), (4, .int x4), (6, .int x6), (8, .int x8), (9, .int x9), (10, .int x10), (11, .int x11)]) (fun _ => []) := by
  refine q_aload_n 3 (fun _ => qb Y) dL_lay_151 rfl rfl (fun _ => rfl) ?_
  refine q_iload 4 dL_lay_152 rfl (fun _ => rfl) ?_
  refine q_iconst dL_lay_154 rfl ki_1 ?_
  refine q_iadd dL_lay_155 rfl ?_
  refine q_iload 9 dL_lay_156 rfl (fun _ => rfl) ?_
  refine q_bipush dL_lay_158 rfl kb_6 ?_
  refine q_idiv dL_lay_160 rfl h (fun h => ?_)
  refine q_iadd dL_lay_161 rfl ?_
  obtain ⟨o62, hc, h⟩ := bn_of h
  refine q_call [.inl (24, A0), .inl (36, A1)] 2 (fun _ => [.ref (qb Y), .int ((x4 + (1 : Int32)) + (x11 / (6 : Int32)))]) (fun _ => []) (coL_cell (qL Y) (qs Y) ((x4 + (1 : Int32)) + (x11 / (6 : Int32))) o62 hc) rfl rfl rfl ms_RL_9 (by decide) (Or.inl rfl) (fun _ => rfl) (fun _ => rfl) (fun _ => rfl) (fun _ => Nat.le_of_ble_eq_true rfl) dL_lay_162 rfl ?_
  show JQ Y mL_lay (some σ) [0, 1] [.inl (24, A0), .inl (36, A1)] _ 165 (fun b => [(0, .ref (xad (qX Y) 0)), (1, .ref (b 0)), (2, .ref (b 1)), (3, .ref (qb Y)), (4, .int x4), (6, .int x6), (8, .int x8), (9, .int x9), (10, .int x10), (11, .int x11)]) (fun _ => [.int o62])
  refine q_iconst dL_lay_165 rfl ki_5 ?_
  refine q_iload 9 dL_lay_166 rfl (fun _ => rfl) ?_
  refine q_bipush dL_lay_168 rfl kb_6 ?_
  refine q_irem dL_lay_170 rfl h (fun h => ?_)
  refine q_imul dL_lay_171 rfl ?_
  refine q_ishr dL_lay_172 rfl ?_
  refine q_bipush dL_lay_173 rfl kb_32 ?_
  obtain ⟨o63, hc, h⟩ := bn_of h
  refine q_call [.inl (24, A0), .inl (36, A1)] 2 (fun _ => [.int (o62 >>> (((5 : Int32) * (x11 - x11 / (6 : Int32) * (6 : Int32))) &&& 31)), .int (32 : Int32)]) (fun _ => []) (coL_low (o62 >>> (((5 : Int32) * (x11 - x11 / (6 : Int32) * (6 : Int32))) &&& 31)) (32 : Int32) o63 hc) rfl rfl rfl ms_RL_15 (by decide) (Or.inl rfl) (fun _ => rfl) (fun _ => rfl) (fun _ => rfl) (fun _ => Nat.le_of_ble_eq_true rfl) dL_lay_175 rfl ?_
  show JQ Y mL_lay (some σ) [0, 1] [.inl (24, A0), .inl (36, A1)] _ 178 (fun b => [(0, .ref (xad (qX Y) 0)), (1, .ref (b 0)), (2, .ref (b 1)), (3, .ref (qb Y)), (4, .int x4), (6, .int x6), (8, .int x8), (9, .int x9), (10, .int x10), (11, .int x11)]) (fun _ => [.int o63])
  refine q_istoreV (fun b => [(12, .int o63), (0, .ref (xad (qX Y) 0)), (1, .ref (b 0)), (2, .ref (b 1)), (3, .ref (qb Y)), (4, .int x4), (6, .int x6), (8, .int x8), (9, .int x9), (10, .int x10), (11, .int x11)]) dL_lay_178 rfl (show 12 < 16 by decide) (fun _ => rfl) ?_
  refine q_iload 0 dL_lay_180 rfl (fun _ => rfl) ?_
  refine q_bipush dL_lay_182 rfl kb_14 ?_
  refine q_icmp_ge dL_lay_184 rfl rfl h (fun c h => ?_) (fun c h => ?_)
  · refine q_iload 0 dL_lay_191 rfl (fun _ => rfl) ?_
    refine q_bipush dL_lay_193 rfl kb_17 ?_
    refine q_icmp_ge dL_lay_195 rfl rfl h (fun c h => ?_) (fun c h => ?_)
    · refine q_iload 0 dL_lay_202 rfl (fun _ => rfl) ?_
      refine q_bipush dL_lay_204 rfl kb_19 ?_
      refine q_icmp_ge dL_lay_206 rfl rfl h (fun c h => ?_) (fun c h => ?_)
      · refine q_iload 0 dL_lay_213 rfl (fun _ => rfl) ?_
        refine q_bipush dL_lay_215 rfl kb_21 ?_
        refine q_icmp_ge dL_lay_217 rfl rfl h (fun c h => ?_) (fun c h => ?_)
        · refine q_sub [1, 2, 3, 4, 5, 6, 7, 8, 9, 10, 0] (fun b => [(0, .ref (xad (qX Y) 0)), (1, .ref (b 0)), (2, .ref (b 1)), (3, .ref (qb Y)), (4, .int x4), (6, .int x6), (8, .int x8), (9, .int x9), (10, .int x10), (11, .int x11), (12, .int o63)]) (fun _ => rfl) ?_
          exact jL_lay_230 hE rl102 hr102 σ A0 A1 x4 x6 x8 x9 x10 x11 o63 h
        · refine q_iload 7 dL_lay_220 rfl (fun _ => rfl) ?_
          refine q_iconst dL_lay_222 rfl ki_4 ?_
          refine q_icmp_ge dL_lay_223 rfl rfl h (fun c h => ?_) (fun c h => ?_)
          · refine q_sub [1, 2, 3, 4, 5, 6, 7, 8, 9, 10, 0] (fun b => [(0, .ref (xad (qX Y) 0)), (1, .ref (b 0)), (2, .ref (b 1)), (3, .ref (qb Y)), (4, .int x4), (6, .int x6), (8, .int x8), (9, .int x9), (10, .int x10), (11, .int x11), (12, .int o63)]) (fun _ => rfl) ?_
            exact jL_lay_230 hE rl102 hr102 σ A0 A1 x4 x6 x8 x9 x10 x11 o63 h
          · refine q_iconst dL_lay_226 rfl ki_3 ?_
            refine q_goto dL_lay_227 rfl ?_
            refine q_sub [1, 2, 3, 4, 5, 6, 7, 8, 9, 10, 0] (fun b => [(0, .ref (xad (qX Y) 0)), (1, .ref (b 0)), (2, .ref (b 1)), (3, .ref (qb Y)), (4, .int x4), (6, .int x6), (8, .int x8), (9, .int x9), (10, .int x10), (11, .int x11), (12, .int o63)]) (fun _ => rfl) ?_
            exact jL_lay_253 hE rl102 hr102 σ A0 A1 x4 x6 x8 x9 x10 x11 o63 (3 : Int32) h
      · refine q_iconst dL_lay_209 rfl ki_2 ?_
        refine q_goto dL_lay_210 rfl ?_
        refine q_sub [1, 2, 3, 4, 5, 6, 7, 8, 9, 10, 0] (fun b => [(0, .ref (xad (qX Y) 0)), (1, .ref (b 0)), (2, .ref (b 1)), (3, .ref (qb Y)), (4, .int x4), (6, .int x6), (8, .int x8), (9, .int x9), (10, .int x10), (11, .int x11), (12, .int o63)]) (fun _ => rfl) ?_
        exact jL_lay_253 hE rl102 hr102 σ A0 A1 x4 x6 x8 x9 x10 x11 o63 (2 : Int32) h
    · refine q_iconst dL_lay_198 rfl ki_1 ?_
      refine q_goto dL_lay_199 rfl ?_
      refine q_sub [1, 2, 3, 4, 5, 6, 7, 8, 9, 10, 0] (fun b => [(0, .ref (xad (qX Y) 0)), (1, .ref (b 0)), (2, .ref (b 1)), (3, .ref (qb Y)), (4, .int x4), (6, .int x6), (8, .int x8), (9, .int x9), (10, .int x10), (11, .int x11), (12, .int o63)]) (fun _ => rfl) ?_
      exact jL_lay_253 hE rl102 hr102 σ A0 A1 x4 x6 x8 x9 x10 x11 o63 (1 : Int32) h
  · refine q_iconst dL_lay_187 rfl ki_0 ?_
    refine q_goto dL_lay_188 rfl ?_
    refine q_sub [1, 2, 3, 4, 5, 6, 7, 8, 9, 10, 0] (fun b => [(0, .ref (xad (qX Y) 0)), (1, .ref (b 0)), (2, .ref (b 1)), (3, .ref (qb Y)), (4, .int x4), (6, .int x6), (8, .int x8), (9, .int x9), (10, .int x10), (11, .int x11), (12, .int o63)]) (fun _ => rfl) ?_
    exact jL_lay_253 hE rl102 hr102 σ A0 A1 x4 x6 x8 x9 x10 x11 o63 (0 : Int32) h
noncomputable def BL_lay_102 (L : Nat) (xs : Nat → Int32) (rl102 : Mem → (Nat → Int32) → (Nat → Int32) → Int32 → Int32 → Int32 → Int32 → Int32 → Int32 → Option (Int32 × (Nat → Int32) × (Nat → Int32) × Mem)) (σ : Mem) (A0 : Nat → Int32) (A1 : Nat → Int32) (x4 : Int32) (x6 : Int32) (x8 : Int32) (x9 : Int32) (x10 : Int32) (x11 : Int32) : Option (Int32 × (Nat → Int32) × (Nat → Int32) × Mem) :=
  rd (0 : Int32) 24 fun j64 =>
  rd (1 : Int32) 24 fun j65 =>
  if ((A0 j64) * (A0 j65)) ≤ x11 then
  (stA (20 : Int32) 24 A0 x10 fun f66 =>
  if x9 = 0 then
  (some ((-999 : Int32), f66, A1, σ))
  else
  (bi (FX8_yard σ (0 : Int32) (0 : Int32) (0 : Int32) x10) fun r67 σ68 =>
  some (r67, f66, A1, σ68)))
  else
  (rd (1 : Int32) 24 fun j69 =>
  dzI (A0 j69) <|
  if (x11 - x11 / (A0 j69) * (A0 j69)) = 0 then
  (if x9 = 0 then
  (nm (x10 + (1 : Int32)) fun x_70 =>
  FL_lay_151 L xs rl102 σ A0 A1 x4 x6 x8 (0 : Int32) x_70 x11)
  else
  (bi (FX8_put σ (0 : Int32) x10 (59 : Int32)) fun r71 σ72 =>
  if r71 = (1 : Int32) then
  (nm (x10 + (1 : Int32)) fun x_74 =>
  FL_lay_151 L xs rl102 σ72 A0 A1 x4 x6 x8 (1 : Int32) x_74 x11)
  else
  (nm (x10 + (1 : Int32)) fun x_73 =>
  FL_lay_151 L xs rl102 σ72 A0 A1 x4 x6 x8 (0 : Int32) x_73 x11)))
  else
  (FL_lay_151 L xs rl102 σ A0 A1 x4 x6 x8 x9 x10 x11))
set_option maxHeartbeats 4000000 in
set_option maxRecDepth 100000 in
theorem jL_lay_102 {Y : QX} {out : Int32 × (Nat → Int32) × (Nat → Int32) × Mem} (hE : EndQ Y mL_lay .ireturn [0, 1] (some out.2.2.2) [.inl (24, out.2.1), .inl (36, out.2.2.1)] (fun _ => [.int out.1])) (rl102 : Mem → (Nat → Int32) → (Nat → Int32) → Int32 → Int32 → Int32 → Int32 → Int32 → Int32 → Option (Int32 × (Nat → Int32) × (Nat → Int32) × Mem)) (hr102 : ∀ (σ : Mem) (A0 : Nat → Int32) (A1 : Nat → Int32) (x4 : Int32) (x6 : Int32) (x8 : Int32) (x9 : Int32) (x10 : Int32) (x11 : Int32), rl102 σ A0 A1 x4 x6 x8 x9 x10 x11 = some out → JQ Y mL_lay (some σ) [0, 1] [.inl (24, A0), .inl (36, A1)] 0 102 (fun b => [(0, .ref (xad (qX Y) 0)), (1, .ref (b 0)), (2, .ref (b 1)), (3, .ref (qb Y)), (4, .int x4), (6, .int x6), (8, .int x8), (9, .int x9), (10, .int x10), (11, .int x11)]) (fun _ => [])) (σ : Mem) (A0 : Nat → Int32) (A1 : Nat → Int32) (x4 : Int32) (x6 : Int32) (x8 : Int32) (x9 : Int32) (x10 : Int32) (x11 : Int32) (h : BL_lay_102 (qL Y) (qs Y) rl102 σ A0 A1 x4 x6 x8 x9 x10 x11 = some out) : JQ Y mL_lay (some σ) [0, 1] [.inl (24, A0), .inl (36, A1)] 0 102 (fun b => [(0, .ref (xad (qX Y) 0)), (1, .ref (b 0)), (2, .ref (b 1)), (3, .ref (qb Y)), (4, .int x4), (6, .int x6), (8, .int x8), (9, .int x9), (10, .int x10), (11, .int x11)]) (fun _ => []) := by
  refine q_iload 9 dL_lay_102 rfl (fun _ => rfl) ?_
  refine q_aload_n 1 (fun b => b 0) dL_lay_104 rfl rfl (fun _ => rfl) ?_
  refine q_iconst dL_lay_105 rfl ki_0 ?_
  refine q_iald 0 24 A0 rfl dL_lay_106 rfl h (fun j64 h => ?_)
  refine q_aload_n 1 (fun b => b 0) dL_lay_107 rfl rfl (fun _ => rfl) ?_
  refine q_iconst dL_lay_108 rfl ki_1 ?_
  refine q_iald 0 24 A0 rfl dL_lay_109 rfl h (fun j65 h => ?_)
  refine q_imul dL_lay_110 rfl ?_
  refine q_icmp_ge dL_lay_111 rfl rfl h (fun c h => ?_) (fun c h => ?_)
  · refine q_aload_n 1 (fun b => b 0) dL_lay_453 rfl rfl (fun _ => rfl) ?_
    refine q_bipush dL_lay_454 rfl kb_20 ?_
    refine q_iload 8 dL_lay_456 rfl (fun _ => rfl) ?_
    refine q_iast 0 24 A0 (fun f66 => [.inl (24, f66), .inl (36, A1)]) rfl (fun _ => rfl) dL_lay_458 rfl h (fun f66 h => ?_)
    refine q_iload 7 dL_lay_459 rfl (fun _ => rfl) ?_
    refine q_if_eq dL_lay_461 rfl rfl h (fun c h => ?_) (fun c h => ?_)
    · refine q_sipush dL_lay_476 rfl ks_m999 ?_
      cases h
      exact hE _ _ _ dL_lay_479
    · refine q_aload_n 0 (fun _ => xad (qX Y) 0) dL_lay_464 rfl rfl (fun _ => rfl) ?_
      refine q_iconst dL_lay_465 rfl ki_0 ?_
      refine q_iconst dL_lay_466 rfl ki_0 ?_
      refine q_iconst dL_lay_467 rfl ki_0 ?_
      refine q_iload 8 dL_lay_468 rfl (fun _ => rfl) ?_
      obtain ⟨r67, σ68, hc, h⟩ := bi_of h
      refine q_callX [.int (0 : Int32), .int (0 : Int32), .int (0 : Int32), .int x10] [] (coX8_yard σ (0 : Int32) (0 : Int32) (0 : Int32) x10 r67 σ68 hc) mv_RL_25 (by decide) rfl rfl (fun _ => rfl) (Nat.le_of_ble_eq_true rfl) dL_lay_470 rfl ?_
      refine q_goto dL_lay_473 rfl ?_
      cases h
      exact hE _ _ _ dL_lay_479
  · refine q_iload 9 dL_lay_114 rfl (fun _ => rfl) ?_
    refine q_aload_n 1 (fun b => b 0) dL_lay_116 rfl rfl (fun _ => rfl) ?_
    refine q_iconst dL_lay_117 rfl ki_1 ?_
    refine q_iald 0 24 A0 rfl dL_lay_118 rfl h (fun j69 h => ?_)
    refine q_irem dL_lay_119 rfl h (fun h => ?_)
    refine q_if_ne dL_lay_120 rfl rfl h (fun c h => ?_) (fun c h => ?_)
    · exact jL_lay_151 hE rl102 hr102 σ A0 A1 x4 x6 x8 x9 x10 x11 h
    · refine q_iload 7 dL_lay_123 rfl (fun _ => rfl) ?_
      refine q_if_eq dL_lay_125 rfl rfl h (fun c h => ?_) (fun c h => ?_)
      · refine q_iconst dL_lay_145 rfl ki_0 ?_
        refine q_istoreV (fun b => [(9, .int (0 : Int32)), (0, .ref (xad (qX Y) 0)), (1, .ref (b 0)), (2, .ref (b 1)), (3, .ref (qb Y)), (4, .int x4), (6, .int x6), (8, .int x8), (10, .int x10), (11, .int x11)]) dL_lay_146 rfl (show 9 < 16 by decide) (fun _ => rfl) ?_
        refine q_iinc 8 (fun x_70 => (fun b => [(10, .int x_70), (9, .int (0 : Int32)), (0, .ref (xad (qX Y) 0)), (1, .ref (b 0)), (2, .ref (b 1)), (3, .ref (qb Y)), (4, .int x4), (6, .int x6), (8, .int x8), (11, .int x11)])) dL_lay_148 rfl (fun _ => rfl) ki_1 (show 10 < 16 by decide) (fun _ _ => rfl) h (fun x_70 h => ?_)
        refine q_sub [2, 3, 4, 5, 6, 7, 8, 1, 0, 9] (fun b => [(0, .ref (xad (qX Y) 0)), (1, .ref (b 0)), (2, .ref (b 1)), (3, .ref (qb Y)), (4, .int x4), (6, .int x6), (8, .int x8), (9, .int (0 : Int32)), (10, .int x_70), (11, .int x11)]) (fun _ => rfl) ?_
        exact jL_lay_151 hE rl102 hr102 σ A0 A1 x4 x6 x8 (0 : Int32) x_70 x11 h
      · refine q_aload_n 0 (fun _ => xad (qX Y) 0) dL_lay_128 rfl rfl (fun _ => rfl) ?_
        refine q_iconst dL_lay_129 rfl ki_0 ?_
        refine q_iload 8 dL_lay_130 rfl (fun _ => rfl) ?_
        refine q_bipush dL_lay_132 rfl kb_59 ?_
        obtain ⟨r71, σ72, hc, h⟩ := bi_of h
        refine q_callX [.int (0 : Int32), .int x10, .int (59 : Int32)] [] (coX8_put σ (0 : Int32) x10 (59 : Int32) r71 σ72 hc) mv_RL_19 (by decide) rfl rfl (fun _ => rfl) (Nat.le_of_ble_eq_true rfl) dL_lay_134 rfl ?_
        refine q_iconst dL_lay_137 rfl ki_1 ?_
        refine q_icmp_ne dL_lay_138 rfl rfl h (fun c h => ?_) (fun c h => ?_)
        · refine q_iconst dL_lay_145 rfl ki_0 ?_
          refine q_istoreV (fun b => [(9, .int (0 : Int32)), (0, .ref (xad (qX Y) 0)), (1, .ref (b 0)), (2, .ref (b 1)), (3, .ref (qb Y)), (4, .int x4), (6, .int x6), (8, .int x8), (10, .int x10), (11, .int x11)]) dL_lay_146 rfl (show 9 < 16 by decide) (fun _ => rfl) ?_
          refine q_iinc 8 (fun x_73 => (fun b => [(10, .int x_73), (9, .int (0 : Int32)), (0, .ref (xad (qX Y) 0)), (1, .ref (b 0)), (2, .ref (b 1)), (3, .ref (qb Y)), (4, .int x4), (6, .int x6), (8, .int x8), (11, .int x11)])) dL_lay_148 rfl (fun _ => rfl) ki_1 (show 10 < 16 by decide) (fun _ _ => rfl) h (fun x_73 h => ?_)
          refine q_sub [2, 3, 4, 5, 6, 7, 8, 1, 0, 9] (fun b => [(0, .ref (xad (qX Y) 0)), (1, .ref (b 0)), (2, .ref (b 1)), (3, .ref (qb Y)), (4, .int x4), (6, .int x6), (8, .int x8), (9, .int (0 : Int32)), (10, .int x_73), (11, .int x11)]) (fun _ => rfl) ?_
          exact jL_lay_151 hE rl102 hr102 σ72 A0 A1 x4 x6 x8 (0 : Int32) x_73 x11 h
        · refine q_iconst dL_lay_141 rfl ki_1 ?_
          refine q_goto dL_lay_142 rfl ?_
          refine q_istoreV (fun b => [(9, .int (1 : Int32)), (0, .ref (xad (qX Y) 0)), (1, .ref (b 0)), (2, .ref (b 1)), (3, .ref (qb Y)), (4, .int x4), (6, .int x6), (8, .int x8), (10, .int x10), (11, .int x11)]) dL_lay_146 rfl (show 9 < 16 by decide) (fun _ => rfl) ?_
          refine q_iinc 8 (fun x_74 => (fun b => [(10, .int x_74), (9, .int (1 : Int32)), (0, .ref (xad (qX Y) 0)), (1, .ref (b 0)), (2, .ref (b 1)), (3, .ref (qb Y)), (4, .int x4), (6, .int x6), (8, .int x8), (11, .int x11)])) dL_lay_148 rfl (fun _ => rfl) ki_1 (show 10 < 16 by decide) (fun _ _ => rfl) h (fun x_74 h => ?_)
          refine q_sub [2, 3, 4, 5, 6, 7, 8, 1, 0, 9] (fun b => [(0, .ref (xad (qX Y) 0)), (1, .ref (b 0)), (2, .ref (b 1)), (3, .ref (qb Y)), (4, .int x4), (6, .int x6), (8, .int x8), (9, .int (1 : Int32)), (10, .int x_74), (11, .int x11)]) (fun _ => rfl) ?_
          exact jL_lay_151 hE rl102 hr102 σ72 A0 A1 x4 x6 x8 (1 : Int32) x_74 x11 h
noncomputable def FL_lay_102 (L : Nat) (xs : Nat → Int32) (fu : Nat) : Mem → (Nat → Int32) → (Nat → Int32) → Int32 → Int32 → Int32 → Int32 → Int32 → Int32 → Option (Int32 × (Nat → Int32) × (Nat → Int32) × Mem) :=
  Nat.rec (fun _ _ _ _ _ _ _ _ _ => none) (fun _ ih => BL_lay_102 L xs ih) fu
theorem lL_lay_102 {Y : QX} {out : Int32 × (Nat → Int32) × (Nat → Int32) × Mem} (hE : EndQ Y mL_lay .ireturn [0, 1] (some out.2.2.2) [.inl (24, out.2.1), .inl (36, out.2.2.1)] (fun _ => [.int out.1])) : ∀ (fu : Nat) (σ : Mem) (A0 : Nat → Int32) (A1 : Nat → Int32) (x4 : Int32) (x6 : Int32) (x8 : Int32) (x9 : Int32) (x10 : Int32) (x11 : Int32), FL_lay_102 (qL Y) (qs Y) fu σ A0 A1 x4 x6 x8 x9 x10 x11 = some out → JQ Y mL_lay (some σ) [0, 1] [.inl (24, A0), .inl (36, A1)] 0 102 (fun b => [(0, .ref (xad (qX Y) 0)), (1, .ref (b 0)), (2, .ref (b 1)), (3, .ref (qb Y)), (4, .int x4), (6, .int x6), (8, .int x8), (9, .int x9), (10, .int x10), (11, .int x11)]) (fun _ => []) := by
  intro fu
  induction fu with
  | zero => intro σ A0 A1 x4 x6 x8 x9 x10 x11 h; exact nn h
  | succ fu ih => intro σ A0 A1 x4 x6 x8 x9 x10 x11 h; exact jL_lay_102 hE (FL_lay_102 (qL Y) (qs Y) fu) ih σ A0 A1 x4 x6 x8 x9 x10 x11 h
noncomputable def FL_lay (L : Nat) (xs : Nat → Int32) (σ : Mem) (yy : Nat → Int32) (gg : Nat → Int32) (a4 : Int32) (a5 : Int32) (a6 : Int32) : Option (Int32 × (Nat → Int32) × (Nat → Int32) × Mem) :=
  bn (FL_cell L xs a4) fun o75 =>
  bn (FL_low o75 (a5 - (2 : Int32))) fun o76 =>
  stA (0 : Int32) 24 yy ((3 : Int32) + o76) fun f77 =>
  bn (FL_low (o75 >>> ((3 : Int32) &&& 31)) (a5 - (2 : Int32))) fun o78 =>
  stA (1 : Int32) 24 f77 ((3 : Int32) + o78) fun f79 =>
  stA (2 : Int32) 24 f79 (0 : Int32) fun f80 =>
  bi (FX8_put σ (0 : Int32) (0 : Int32) (105 : Int32)) fun r81 σ82 =>
  if r81 = (1 : Int32) then
  (rd (0 : Int32) 24 fun j83 =>
  bi (FX8_put σ82 (0 : Int32) (1 : Int32) ((48 : Int32) + (f80 j83))) fun r84 σ85 =>
  if r84 = (1 : Int32) then
  (rd (1 : Int32) 24 fun j86 =>
  bi (FX8_put σ85 (0 : Int32) (2 : Int32) ((48 : Int32) + (f80 j86))) fun r87 σ88 =>
  if r87 = (1 : Int32) then
  (FL_lay_102 L xs FU σ88 f80 gg a4 a6 (0 : Int32) (1 : Int32) (3 : Int32) (0 : Int32))
  else
  (FL_lay_102 L xs FU σ88 f80 gg a4 a6 (0 : Int32) (0 : Int32) (3 : Int32) (0 : Int32)))
  else
  (FL_lay_102 L xs FU σ85 f80 gg a4 a6 (0 : Int32) (0 : Int32) (3 : Int32) (0 : Int32)))
  else
  (FL_lay_102 L xs FU σ82 f80 gg a4 a6 (0 : Int32) (0 : Int32) (3 : Int32) (0 : Int32))
set_option maxHeartbeats 4000000 in
set_option maxRecDepth 100000 in
theorem eL_lay {Y : QX} {out : Int32 × (Nat → Int32) × (Nat → Int32) × Mem} (hE : EndQ Y mL_lay .ireturn [0, 1] (some out.2.2.2) [.inl (24, out.2.1), .inl (36, out.2.2.1)] (fun _ => [.int out.1])) (σ : Mem) (yy : Nat → Int32) (gg : Nat → Int32) (a4 : Int32) (a5 : Int32) (a6 : Int32) (h : FL_lay (qL Y) (qs Y) σ yy gg a4 a5 a6 = some out) : JQ Y mL_lay (some σ) [0, 1] [.inl (24, yy), .inl (36, gg)] 0 0 (fun b => [(0, .ref (xad (qX Y) 0)), (1, .ref (b 0)), (2, .ref (b 1)), (3, .ref (qb Y)), (4, .int a4), (5, .int a5), (6, .int a6)]) (fun _ => []) := by
  refine q_aload_n 3 (fun _ => qb Y) dL_lay_0 rfl rfl (fun _ => rfl) ?_
  refine q_iload 4 dL_lay_1 rfl (fun _ => rfl) ?_
  obtain ⟨o75, hc, h⟩ := bn_of h
  refine q_call [.inl (24, yy), .inl (36, gg)] 2 (fun _ => [.ref (qb Y), .int a4]) (fun _ => []) (coL_cell (qL Y) (qs Y) a4 o75 hc) rfl rfl rfl ms_RL_9 (by decide) (Or.inl rfl) (fun _ => rfl) (fun _ => rfl) (fun _ => rfl) (fun _ => Nat.le_of_ble_eq_true rfl) dL_lay_3 rfl ?_
  show JQ Y mL_lay (some σ) [0, 1] [.inl (24, yy), .inl (36, gg)] _ 6 (fun b => [(0, .ref (xad (qX Y) 0)), (1, .ref (b 0)), (2, .ref (b 1)), (3, .ref (qb Y)), (4, .int a4), (5, .int a5), (6, .int a6)]) (fun _ => [.int o75])
  refine q_istoreV (fun b => [(7, .int o75), (0, .ref (xad (qX Y) 0)), (1, .ref (b 0)), (2, .ref (b 1)), (3, .ref (qb Y)), (4, .int a4), (5, .int a5), (6, .int a6)]) dL_lay_6 rfl (show 7 < 16 by decide) (fun _ => rfl) ?_
  refine q_aload_n 2 (fun b => b 0) dL_lay_8 rfl rfl (fun _ => rfl) ?_
  refine q_iconst dL_lay_9 rfl ki_0 ?_
  refine q_iconst dL_lay_10 rfl ki_3 ?_
  refine q_iload 0 dL_lay_11 rfl (fun _ => rfl) ?_
  refine q_iload 6 dL_lay_13 rfl (fun _ => rfl) ?_
  refine q_iconst dL_lay_15 rfl ki_2 ?_
  refine q_isub dL_lay_16 rfl ?_
  obtain ⟨o76, hc, h⟩ := bn_of h
  refine q_call [.inl (24, yy), .inl (36, gg)] 2 (fun _ => [.int o75, .int (a5 - (2 : Int32))]) (fun b => [.int (3 : Int32), .int (0 : Int32), .ref (b 0)]) (coL_low o75 (a5 - (2 : Int32)) o76 hc) rfl rfl rfl ms_RL_15 (by decide) (Or.inl rfl) (fun _ => rfl) (fun _ => rfl) (fun _ => rfl) (fun _ => Nat.le_of_ble_eq_true rfl) dL_lay_17 rfl ?_
  show JQ Y mL_lay (some σ) [0, 1] [.inl (24, yy), .inl (36, gg)] _ 20 (fun b => [(7, .int o75), (0, .ref (xad (qX Y) 0)), (1, .ref (b 0)), (2, .ref (b 1)), (3, .ref (qb Y)), (4, .int a4), (5, .int a5), (6, .int a6)]) (fun b => [.int o76, .int (3 : Int32), .int (0 : Int32), .ref (b 0)])
  refine q_iadd dL_lay_20 rfl ?_
  refine q_iast 0 24 yy (fun f77 => [.inl (24, f77), .inl (36, gg)]) rfl (fun _ => rfl) dL_lay_21 rfl h (fun f77 h => ?_)
  refine q_aload_n 2 (fun b => b 0) dL_lay_22 rfl rfl (fun _ => rfl) ?_
  refine q_iconst dL_lay_23 rfl ki_1 ?_
  refine q_iconst dL_lay_24 rfl ki_3 ?_
  refine q_iload 0 dL_lay_25 rfl (fun _ => rfl) ?_
  refine q_iconst dL_lay_27 rfl ki_3 ?_
  refine q_ishr dL_lay_28 rfl ?_
  refine q_iload 6 dL_lay_29 rfl (fun _ => rfl) ?_
  refine q_iconst dL_lay_31 rfl ki_2 ?_
  refine q_isub dL_lay_32 rfl ?_
  obtain ⟨o78, hc, h⟩ := bn_of h
  refine q_call [.inl (24, f77), .inl (36, gg)] 2 (fun _ => [.int (o75 >>> ((3 : Int32) &&& 31)), .int (a5 - (2 : Int32))]) (fun b => [.int (3 : Int32), .int (1 : Int32), .ref (b 0)]) (coL_low (o75 >>> ((3 : Int32) &&& 31)) (a5 - (2 : Int32)) o78 hc) rfl rfl rfl ms_RL_15 (by decide) (Or.inl rfl) (fun _ => rfl) (fun _ => rfl) (fun _ => rfl) (fun _ => Nat.le_of_ble_eq_true rfl) dL_lay_33 rfl ?_
  show JQ Y mL_lay (some σ) [0, 1] [.inl (24, f77), .inl (36, gg)] _ 36 (fun b => [(7, .int o75), (0, .ref (xad (qX Y) 0)), (1, .ref (b 0)), (2, .ref (b 1)), (3, .ref (qb Y)), (4, .int a4), (5, .int a5), (6, .int a6)]) (fun b => [.int o78, .int (3 : Int32), .int (1 : Int32), .ref (b 0)])
  refine q_iadd dL_lay_36 rfl ?_
  refine q_iast 0 24 f77 (fun f79 => [.inl (24, f79), .inl (36, gg)]) rfl (fun _ => rfl) dL_lay_37 rfl h (fun f79 h => ?_)
  refine q_aload_n 2 (fun b => b 0) dL_lay_38 rfl rfl (fun _ => rfl) ?_
  refine q_iconst dL_lay_39 rfl ki_2 ?_
  refine q_iconst dL_lay_40 rfl ki_0 ?_
  refine q_iast 0 24 f79 (fun f80 => [.inl (24, f80), .inl (36, gg)]) rfl (fun _ => rfl) dL_lay_41 rfl h (fun f80 h => ?_)
  refine q_iconst dL_lay_42 rfl ki_0 ?_
  refine q_istoreV (fun b => [(8, .int (0 : Int32)), (7, .int o75), (0, .ref (xad (qX Y) 0)), (1, .ref (b 0)), (2, .ref (b 1)), (3, .ref (qb Y)), (4, .int a4), (5, .int a5), (6, .int a6)]) dL_lay_43 rfl (show 8 < 16 by decide) (fun _ => rfl) ?_
  refine q_aload_n 2 (fun _ => xad (qX Y) 0) dL_lay_45 rfl rfl (fun _ => rfl) ?_
  refine q_iconst dL_lay_46 rfl ki_0 ?_
  refine q_iconst dL_lay_47 rfl ki_0 ?_
  refine q_bipush dL_lay_48 rfl kb_105 ?_
  obtain ⟨r81, σ82, hc, h⟩ := bi_of h
  refine q_callX [.int (0 : Int32), .int (0 : Int32), .int (105 : Int32)] [] (coX8_put σ (0 : Int32) (0 : Int32) (105 : Int32) r81 σ82 hc) mv_RL_19 (by decide) rfl rfl (fun _ => rfl) (Nat.le_of_ble_eq_true rfl) dL_lay_50 rfl ?_
  refine q_iconst dL_lay_53 rfl ki_1 ?_
  refine q_icmp_ne dL_lay_54 rfl rfl h (fun c h => ?_) (fun c h => ?_)
  · refine q_iconst dL_lay_93 rfl ki_0 ?_
    refine q_istoreV (fun b => [(9, .int (0 : Int32)), (8, .int (0 : Int32)), (7, .int o75), (0, .ref (xad (qX Y) 0)), (1, .ref (b 0)), (2, .ref (b 1)), (3, .ref (qb Y)), (4, .int a4), (5, .int a5), (6, .int a6)]) dL_lay_94 rfl (show 9 < 16 by decide) (fun _ => rfl) ?_
    refine q_iconst dL_lay_96 rfl ki_3 ?_
    refine q_istoreV (fun b => [(10, .int (3 : Int32)), (9, .int (0 : Int32)), (8, .int (0 : Int32)), (7, .int o75), (0, .ref (xad (qX Y) 0)), (1, .ref (b 0)), (2, .ref (b 1)), (3, .ref (qb Y)), (4, .int a4), (5, .int a5), (6, .int a6)]) dL_lay_97 rfl (show 10 < 16 by decide) (fun _ => rfl) ?_
    refine q_iconst dL_lay_99 rfl ki_0 ?_
    refine q_istoreV (fun b => [(11, .int (0 : Int32)), (10, .int (3 : Int32)), (9, .int (0 : Int32)), (8, .int (0 : Int32)), (7, .int o75), (0, .ref (xad (qX Y) 0)), (1, .ref (b 0)), (2, .ref (b 1)), (3, .ref (qb Y)), (4, .int a4), (5, .int a5), (6, .int a6)]) dL_lay_100 rfl (show 11 < 16 by decide) (fun _ => rfl) ?_
    refine q_sub [5, 6, 7, 8, 9, 11, 3, 2, 1, 0] (fun b => [(0, .ref (xad (qX Y) 0)), (1, .ref (b 0)), (2, .ref (b 1)), (3, .ref (qb Y)), (4, .int a4), (6, .int a6), (8, .int (0 : Int32)), (9, .int (0 : Int32)), (10, .int (3 : Int32)), (11, .int (0 : Int32))]) (fun _ => rfl) ?_
    exact lL_lay_102 hE FU σ82 f80 gg a4 a6 (0 : Int32) (0 : Int32) (3 : Int32) (0 : Int32) h
  · refine q_aload_n 2 (fun _ => xad (qX Y) 0) dL_lay_57 rfl rfl (fun _ => rfl) ?_
    refine q_iconst dL_lay_58 rfl ki_0 ?_
    refine q_iconst dL_lay_59 rfl ki_1 ?_
    refine q_bipush dL_lay_60 rfl kb_48 ?_
    refine q_aload_n 3 (fun b => b 0) dL_lay_62 rfl rfl (fun _ => rfl) ?_
    refine q_iconst dL_lay_63 rfl ki_0 ?_
    refine q_iald 0 24 f80 rfl dL_lay_64 rfl h (fun j83 h => ?_)
    refine q_iadd dL_lay_65 rfl ?_
    obtain ⟨r84, σ85, hc, h⟩ := bi_of h
    refine q_callX [.int (0 : Int32), .int (1 : Int32), .int ((48 : Int32) + (f80 j83))] [] (coX8_put σ82 (0 : Int32) (1 : Int32) ((48 : Int32) + (f80 j83)) r84 σ85 hc) mv_RL_19 (by decide) rfl rfl (fun _ => rfl) (Nat.le_of_ble_eq_true rfl) dL_lay_66 rfl ?_
    refine q_iconst dL_lay_69 rfl ki_1 ?_
    refine q_icmp_ne dL_lay_70 rfl rfl h (fun c h => ?_) (fun c h => ?_)
    · refine q_iconst dL_lay_93 rfl ki_0 ?_
      refine q_istoreV (fun b => [(9, .int (0 : Int32)), (8, .int (0 : Int32)), (7, .int o75), (0, .ref (xad (qX Y) 0)), (1, .ref (b 0)), (2, .ref (b 1)), (3, .ref (qb Y)), (4, .int a4), (5, .int a5), (6, .int a6)]) dL_lay_94 rfl (show 9 < 16 by decide) (fun _ => rfl) ?_
      refine q_iconst dL_lay_96 rfl ki_3 ?_
      refine q_istoreV (fun b => [(10, .int (3 : Int32)), (9, .int (0 : Int32)), (8, .int (0 : Int32)), (7, .int o75), (0, .ref (xad (qX Y) 0)), (1, .ref (b 0)), (2, .ref (b 1)), (3, .ref (qb Y)), (4, .int a4), (5, .int a5), (6, .int a6)]) dL_lay_97 rfl (show 10 < 16 by decide) (fun _ => rfl) ?_
      refine q_iconst dL_lay_99 rfl ki_0 ?_
      refine q_istoreV (fun b => [(11, .int (0 : Int32)), (10, .int (3 : Int32)), (9, .int (0 : Int32)), (8, .int (0 : Int32)), (7, .int o75), (0, .ref (xad (qX Y) 0)), (1, .ref (b 0)), (2, .ref (b 1)), (3, .ref (qb Y)), (4, .int a4), (5, .int a5), (6, .int a6)]) dL_lay_100 rfl (show 11 < 16 by decide) (fun _ => rfl) ?_
      refine q_sub [5, 6, 7, 8, 9, 11, 3, 2, 1, 0] (fun b => [(0, .ref (xad (qX Y) 0)), (1, .ref (b 0)), (2, .ref (b 1)), (3, .ref (qb Y)), (4, .int a4), (6, .int a6), (8, .int (0 : Int32)), (9, .int (0 : Int32)), (10, .int (3 : Int32)), (11, .int (0 : Int32))]) (fun _ => rfl) ?_
      exact lL_lay_102 hE FU σ85 f80 gg a4 a6 (0 : Int32) (0 : Int32) (3 : Int32) (0 : Int32) h
    · refine q_aload_n 2 (fun _ => xad (qX Y) 0) dL_lay_73 rfl rfl (fun _ => rfl) ?_
      refine q_iconst dL_lay_74 rfl ki_0 ?_
      refine q_iconst dL_lay_75 rfl ki_2 ?_
      refine q_bipush dL_lay_76 rfl kb_48 ?_
      refine q_aload_n 3 (fun b => b 0) dL_lay_78 rfl rfl (fun _ => rfl) ?_
      refine q_iconst dL_lay_79 rfl ki_1 ?_
      refine q_iald 0 24 f80 rfl dL_lay_80 rfl h (fun j86 h => ?_)
      refine q_iadd dL_lay_81 rfl ?_
      obtain ⟨r87, σ88, hc, h⟩ := bi_of h
      refine q_callX [.int (0 : Int32), .int (2 : Int32), .int ((48 : Int32) + (f80 j86))] [] (coX8_put σ85 (0 : Int32) (2 : Int32) ((48 : Int32) + (f80 j86)) r87 σ88 hc) mv_RL_19 (by decide) rfl rfl (fun _ => rfl) (Nat.le_of_ble_eq_true rfl) dL_lay_82 rfl ?_
      refine q_iconst dL_lay_85 rfl ki_1 ?_
      refine q_icmp_ne dL_lay_86 rfl rfl h (fun c h => ?_) (fun c h => ?_)
      · refine q_iconst dL_lay_93 rfl ki_0 ?_
        refine q_istoreV (fun b => [(9, .int (0 : Int32)), (8, .int (0 : Int32)), (7, .int o75), (0, .ref (xad (qX Y) 0)), (1, .ref (b 0)), (2, .ref (b 1)), (3, .ref (qb Y)), (4, .int a4), (5, .int a5), (6, .int a6)]) dL_lay_94 rfl (show 9 < 16 by decide) (fun _ => rfl) ?_
        refine q_iconst dL_lay_96 rfl ki_3 ?_
        refine q_istoreV (fun b => [(10, .int (3 : Int32)), (9, .int (0 : Int32)), (8, .int (0 : Int32)), (7, .int o75), (0, .ref (xad (qX Y) 0)), (1, .ref (b 0)), (2, .ref (b 1)), (3, .ref (qb Y)), (4, .int a4), (5, .int a5), (6, .int a6)]) dL_lay_97 rfl (show 10 < 16 by decide) (fun _ => rfl) ?_
        refine q_iconst dL_lay_99 rfl ki_0 ?_
        refine q_istoreV (fun b => [(11, .int (0 : Int32)), (10, .int (3 : Int32)), (9, .int (0 : Int32)), (8, .int (0 : Int32)), (7, .int o75), (0, .ref (xad (qX Y) 0)), (1, .ref (b 0)), (2, .ref (b 1)), (3, .ref (qb Y)), (4, .int a4), (5, .int a5), (6, .int a6)]) dL_lay_100 rfl (show 11 < 16 by decide) (fun _ => rfl) ?_
        refine q_sub [5, 6, 7, 8, 9, 11, 3, 2, 1, 0] (fun b => [(0, .ref (xad (qX Y) 0)), (1, .ref (b 0)), (2, .ref (b 1)), (3, .ref (qb Y)), (4, .int a4), (6, .int a6), (8, .int (0 : Int32)), (9, .int (0 : Int32)), (10, .int (3 : Int32)), (11, .int (0 : Int32))]) (fun _ => rfl) ?_
        exact lL_lay_102 hE FU σ88 f80 gg a4 a6 (0 : Int32) (0 : Int32) (3 : Int32) (0 : Int32) h
      · refine q_iconst dL_lay_89 rfl ki_1 ?_
        refine q_goto dL_lay_90 rfl ?_
        refine q_istoreV (fun b => [(9, .int (1 : Int32)), (8, .int (0 : Int32)), (7, .int o75), (0, .ref (xad (qX Y) 0)), (1, .ref (b 0)), (2, .ref (b 1)), (3, .ref (qb Y)), (4, .int a4), (5, .int a5), (6, .int a6)]) dL_lay_94 rfl (show 9 < 16 by decide) (fun _ => rfl) ?_
        refine q_iconst dL_lay_96 rfl ki_3 ?_
        refine q_istoreV (fun b => [(10, .int (3 : Int32)), (9, .int (1 : Int32)), (8, .int (0 : Int32)), (7, .int o75), (0, .ref (xad (qX Y) 0)), (1, .ref (b 0)), (2, .ref (b 1)), (3, .ref (qb Y)), (4, .int a4), (5, .int a5), (6, .int a6)]) dL_lay_97 rfl (show 10 < 16 by decide) (fun _ => rfl) ?_
        refine q_iconst dL_lay_99 rfl ki_0 ?_
        refine q_istoreV (fun b => [(11, .int (0 : Int32)), (10, .int (3 : Int32)), (9, .int (1 : Int32)), (8, .int (0 : Int32)), (7, .int o75), (0, .ref (xad (qX Y) 0)), (1, .ref (b 0)), (2, .ref (b 1)), (3, .ref (qb Y)), (4, .int a4), (5, .int a5), (6, .int a6)]) dL_lay_100 rfl (show 11 < 16 by decide) (fun _ => rfl) ?_
        refine q_sub [5, 6, 7, 8, 9, 11, 3, 2, 1, 0] (fun b => [(0, .ref (xad (qX Y) 0)), (1, .ref (b 0)), (2, .ref (b 1)), (3, .ref (qb Y)), (4, .int a4), (6, .int a6), (8, .int (0 : Int32)), (9, .int (1 : Int32)), (10, .int (3 : Int32)), (11, .int (0 : Int32))]) (fun _ => rfl) ?_
        exact lL_lay_102 hE FU σ88 f80 gg a4 a6 (0 : Int32) (1 : Int32) (3 : Int32) (0 : Int32) h
theorem coL_lay (L : Nat) (xs : Nat → Int32) (σ : Mem) (yy : Nat → Int32) (gg : Nat → Int32) (a4 : Int32) (a5 : Int32) (a6 : Int32) (o : Int32 × (Nat → Int32) × (Nat → Int32) × Mem) (h : FL_lay L xs σ yy gg a4 a5 a6 = some o) : ConQ .ireturn 7 0 yL_lay cL_lay 16 (some .int) L xs (fun b ad b0 => [.ref (ad 0), .ref (b 0), .ref (b 1), .ref b0, .int a4, .int a5, .int a6]) [.inl (24, yy), .inl (36, gg)] (some σ) (fun _ => .int o.1) [.inl (24, o.2.1), .inl (36, o.2.2.1)] (some o.2.2.2) :=
  conQ_of (by decide +kernel) rfl (fun _ _ _ => Nat.le_of_ble_eq_true rfl) (Or.inl ⟨rfl, Or.inl ⟨rfl, fun _ => ⟨_, rfl⟩⟩⟩) (fun Y hL hx hE => by
    subst hL; subst hx
    exact eL_lay hE σ yy gg a4 a5 a6 h)

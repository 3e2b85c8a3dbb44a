-- IceYardModel first
abbrev mX9_first : MD := (cX9_first, RX9, 3, (some .int), 8)
noncomputable def FX9_first (σ : Mem) (a1 : Int32) : Option (Int32 × Mem) :=
  bi (FX9_in σ ((a1).toInt64) (0 : Int64) (1 : Int64)) fun r9 σ8 =>
  if r9 = 0 then
  (some ((-1 : Int32), σ8))
  else
  (bi (FX9_wonIn σ8 a1) fun r11 σ10 =>
  if r11 < 0 then
  (some ((-9 : Int32), σ10))
  else
  (rd (0 : Int32) 5 fun j12 =>
  if (σ10.1 22 j12) = 0 then
  (rd (0 : Int32) 5 fun j13 =>
  nm ((σ10.1 20 j13) - (1 : Int32)) fun x_14 =>
  dzI (4 : Int32) <|
  dzI (4 : Int32) <|
  some ((((10 : Int32) * (x_14 / (4 : Int32))) + (x_14 - x_14 / (4 : Int32) * (4 : Int32))), σ10))
  else
  (some ((-9 : Int32), σ10))))
set_option maxHeartbeats 4000000 in
set_option maxRecDepth 100000 in
theorem eX9_first {X : CX} {out : Int32 × Mem} (hE : Ends X SM (some (.int out.1)) out.2) (σ : Mem) (a1 : Int32) (h : FX9_first σ a1 = some out) : J X SM mX9_first σ 0 [(0, .ref (xad X 0)), (1, .int a1)] [] := by
  refine r_iload_n 1 dX9_first_0 rfl rfl rfl ?_
  refine r_i2l dX9_first_1 rfl ?_
  refine r_lconst dX9_first_2 rfl kl_0 ?_
  refine r_lconst dX9_first_3 rfl kl_1 ?_
  obtain ⟨r9, σ8, hc, h⟩ := bi_of h
  refine r_callS [] [.int r9]  (coX9_in σ ((a1).toInt64) (0 : Int64) (1 : Int64) r9 σ8 hc) ms_RX9_142 (by decide) rfl rfl (Nat.le_of_ble_eq_true rfl) rfl dX9_first_4 rfl ?_
  refine r_if_ne dX9_first_7 rfl rfl h (fun c h => ?_) (fun c h => ?_)
  · refine r_aload_n 0 dX9_first_12 rfl rfl rfl ?_
    refine r_iload_n 1 dX9_first_13 rfl rfl rfl ?_
    obtain ⟨r11, σ10, hc, h⟩ := bi_of h
    refine r_callV [.int a1] [] [.int r11]  (coX9_wonIn σ8 a1 r11 σ10 hc) mv_RX9_294 (by decide) rfl rfl rfl rfl rfl (Nat.le_of_ble_eq_true rfl) rfl dX9_first_14 rfl ?_
    refine r_if_lt dX9_first_17 rfl rfl h (fun c h => ?_) (fun c h => ?_)
    · refine r_bipush dX9_first_29 rfl kb_m9 ?_
      exact r_iret rfl dX9_first_31 h hE
    · refine r_aload_n 0 dX9_first_20 rfl rfl rfl ?_
      refine r_getR fg_RX9_75 rfl rfl dX9_first_21 rfl ?_
      refine r_iconst dX9_first_24 rfl ki_0 ?_
      refine r_zald rfl dX9_first_25 rfl h (fun j12 h => ?_)
      refine r_if_eq dX9_first_26 rfl rfl h (fun c h => ?_) (fun c h => ?_)
      · refine r_aload_n 0 dX9_first_32 rfl rfl rfl ?_
        refine r_getR fg_RX9_69 rfl rfl dX9_first_33 rfl ?_
        refine r_iconst dX9_first_36 rfl ki_0 ?_
        refine r_iald rfl dX9_first_37 rfl h (fun j13 h => ?_)
        refine r_iconst dX9_first_38 rfl ki_1 ?_
        refine r_isub dX9_first_39 rfl ?_
        refine r_istore_n (fun x_14 => [(2, .int x_14), (0, .ref (xad X 0)), (1, .int a1)]) dX9_first_40 rfl rfl (show 2 < 3 by decide) (fun _ => rfl) h (fun x_14 h => ?_)
        refine r_bipush dX9_first_41 rfl kb_10 ?_
        refine r_iload_n 0 dX9_first_43 rfl rfl rfl ?_
        refine r_iconst dX9_first_44 rfl ki_4 ?_
        refine r_idiv dX9_first_45 rfl h (fun h => ?_)
        refine r_imul dX9_first_46 rfl ?_
        refine r_iload_n 0 dX9_first_47 rfl rfl rfl ?_
        refine r_iconst dX9_first_48 rfl ki_4 ?_
        refine r_irem dX9_first_49 rfl h (fun h => ?_)
        refine r_iadd dX9_first_50 rfl ?_
        exact r_iret rfl dX9_first_51 h hE
      · refine r_bipush dX9_first_29 rfl kb_m9 ?_
        exact r_iret rfl dX9_first_31 h hE
  · refine r_iconst dX9_first_10 rfl ki_m1 ?_
    exact r_iret rfl dX9_first_11 h hE
theorem coX9_first (σ : Mem) (a1 : Int32) (r : Int32) (σ2 : Mem) (h : FX9_first σ a1 = some (r, σ2)) : Con SM 8 yX9_first cX9_first 3 (some .int) (fun ad => [.ref (ad 0), .int a1]) σ (fun _ => some (.int r)) σ2 :=
  con_of (by decide +kernel) (fun _ => Nat.le_of_ble_eq_true rfl) (fun X hE => eX9_first (out := (r, σ2)) hE σ a1 h)
-- IceYardModel goRow
abbrev mX9_goRow : MD := (cX9_goRow, RX9, 6, (some .boolean), 5)
noncomputable def BX9_goRow_36 (rl36 : Mem → Int32 → Int32 → Int32 → Int32 → Option (Int32 × Mem)) (σ : Mem) (x1 : Int32) (x2 : Int32) (x3 : Int32) (x4 : Int32) : Option (Int32 × Mem) :=
  if x2 ≤ x4 then
  (rz (1 : Int32) σ)
  else
  (dzI x3 <|
  dzI ((4 : Int32) * (σ.1 0 3)) <|
  nm ((x1 / x3) - (x1 / x3) / ((4 : Int32) * (σ.1 0 3)) * ((4 : Int32) * (σ.1 0 3))) fun x_13 =>
  stI σ 26 4 x4 x_13 fun σ14 =>
  dzI (4 : Int32) <|
  dzI (4 : Int32) <|
  bi (FX9_goes σ14 (x_13 / (4 : Int32)) (x_13 - x_13 / (4 : Int32) * (4 : Int32))) fun r16 σ15 =>
  if r16 = 0 then
  (rz (0 : Int32) σ15)
  else
  (rd (0 : Int32) 4 fun j17 =>
  stL σ15 25 4 (0 : Int32) ((σ15.2 25 j17) ||| (σ15.2 0 18)) fun σ18 =>
  dzI ((4 : Int32) * (σ18.1 0 3)) <|
  if (1 : Int32) ≤ (x3 / ((4 : Int32) * (σ18.1 0 3))) then
  (dzI ((4 : Int32) * (σ18.1 0 3)) <|
  nm (x3 / ((4 : Int32) * (σ18.1 0 3))) fun x_19 =>
  nm (x4 + (1 : Int32)) fun x_20 =>
  rl36 σ18 x1 x2 x_19 x_20)
  else
  (nm (x4 + (1 : Int32)) fun x_21 =>
  rl36 σ18 x1 x2 (1 : Int32) x_21)))
set_option maxHeartbeats 4000000 in
set_option maxRecDepth 100000 in
theorem jX9_goRow_36 {X : CX} {out : Int32 × Mem} (hE : Ends X SM (some (.int out.1)) out.2) (rl36 : Mem → Int32 → Int32 → Int32 → Int32 → Option (Int32 × Mem)) (hr36 : ∀ (σ : Mem) (x1 : Int32) (x2 : Int32) (x3 : Int32) (x4 : Int32), rl36 σ x1 x2 x3 x4 = some out → J X SM mX9_goRow σ 36 [(0, .ref (xad X 0)), (1, .int x1), (2, .int x2), (3, .int x3), (4, .int x4)] []) (σ : Mem) (x1 : Int32) (x2 : Int32) (x3 : Int32) (x4 : Int32) (h : BX9_goRow_36 rl36 σ x1 x2 x3 x4 = some out) : J X SM mX9_goRow σ 36 [(0, .ref (xad X 0)), (1, .int x1), (2, .int x2), (3, .int x3), (4, .int x4)] [] := by
  refine r_iload 4 dX9_goRow_36 rfl rfl ?_
  refine r_iload_n 2 dX9_goRow_38 rfl rfl rfl ?_
  refine r_icmp_ge dX9_goRow_39 rfl rfl h (fun c h => ?_) (fun c h => ?_)
  · refine r_iconst dX9_goRow_124 rfl ki_1 ?_
    exact r_zret rfl dX9_goRow_125 h hE
  · refine r_iload_n 1 dX9_goRow_42 rfl rfl rfl ?_
    refine r_iload_n 3 dX9_goRow_43 rfl rfl rfl ?_
    refine r_idiv dX9_goRow_44 rfl h (fun h => ?_)
    refine r_iconst dX9_goRow_45 rfl ki_4 ?_
    refine r_aload_n 0 dX9_goRow_46 rfl rfl rfl ?_
    refine r_getI fg_RX9_179 rfl rfl dX9_goRow_47 rfl ?_
    refine r_imul dX9_goRow_50 rfl ?_
    refine r_irem dX9_goRow_51 rfl h (fun h => ?_)
    refine r_istore (fun x_13 => [(5, .int x_13), (0, .ref (xad X 0)), (1, .int x1), (2, .int x2), (3, .int x3), (4, .int x4)]) dX9_goRow_52 rfl (show 5 < 6 by decide) (fun _ => rfl) h (fun x_13 h => ?_)
    refine r_aload_n 1 dX9_goRow_54 rfl rfl rfl ?_
    refine r_getR fg_RX9_87 rfl rfl dX9_goRow_55 rfl ?_
    refine r_iload 5 dX9_goRow_58 rfl rfl ?_
    refine r_iload 0 dX9_goRow_60 rfl rfl ?_
    refine r_iast rfl dX9_goRow_62 rfl h (fun σ14 h => ?_)
    refine r_aload_n 1 dX9_goRow_63 rfl rfl rfl ?_
    refine r_iload 0 dX9_goRow_64 rfl rfl ?_
    refine r_iconst dX9_goRow_66 rfl ki_4 ?_
    refine r_idiv dX9_goRow_67 rfl h (fun h => ?_)
    refine r_iload 0 dX9_goRow_68 rfl rfl ?_
    refine r_iconst dX9_goRow_70 rfl ki_4 ?_
    refine r_irem dX9_goRow_71 rfl h (fun h => ?_)
    obtain ⟨r16, σ15, hc, h⟩ := bi_of h
    refine r_callV [.int (x_13 / (4 : Int32)), .int (x_13 - x_13 / (4 : Int32) * (4 : Int32))] [] [.int r16]  (coX9_goes σ14 (x_13 / (4 : Int32)) (x_13 - x_13 / (4 : Int32) * (4 : Int32)) r16 σ15 hc) mv_RX9_221 (by decide) rfl rfl rfl rfl rfl (Nat.le_of_ble_eq_true rfl) rfl dX9_goRow_72 rfl ?_
    refine r_if_ne dX9_goRow_75 rfl rfl h (fun c h => ?_) (fun c h => ?_)
    · refine r_aload_n 1 dX9_goRow_80 rfl rfl rfl ?_
      refine r_getR fg_RX9_84 rfl rfl dX9_goRow_81 rfl ?_
      refine r_iconst dX9_goRow_84 rfl ki_0 ?_
      refine r_dup2 dX9_goRow_85 rfl rfl rfl ?_
      refine r_lald rfl dX9_goRow_86 rfl h (fun j17 h => ?_)
      refine r_aload_n 1 dX9_goRow_87 rfl rfl rfl ?_
      refine r_getL fg_RX9_208 rfl rfl dX9_goRow_88 rfl ?_
      refine r_lor dX9_goRow_91 rfl ?_
      refine r_last rfl dX9_goRow_92 rfl h (fun σ18 h => ?_)
      refine r_iload_n 4 dX9_goRow_93 rfl rfl rfl ?_
      refine r_iconst dX9_goRow_94 rfl ki_4 ?_
      refine r_aload_n 1 dX9_goRow_95 rfl rfl rfl ?_
      refine r_getI fg_RX9_179 rfl rfl dX9_goRow_96 rfl ?_
      refine r_imul dX9_goRow_99 rfl ?_
      refine r_idiv dX9_goRow_100 rfl h (fun h => ?_)
      refine r_iconst dX9_goRow_101 rfl ki_1 ?_
      refine r_icmp_ge dX9_goRow_102 rfl rfl h (fun c h => ?_) (fun c h => ?_)
      · refine r_iload_n 4 dX9_goRow_109 rfl rfl rfl ?_
        refine r_iconst dX9_goRow_110 rfl ki_4 ?_
        refine r_aload_n 1 dX9_goRow_111 rfl rfl rfl ?_
        refine r_getI fg_RX9_179 rfl rfl dX9_goRow_112 rfl ?_
        refine r_imul dX9_goRow_115 rfl ?_
        refine r_idiv dX9_goRow_116 rfl h (fun h => ?_)
        refine r_istore_n (fun x_19 => [(3, .int x_19), (5, .int x_13), (0, .ref (xad X 0)), (1, .int x1), (2, .int x2), (4, .int x4)]) dX9_goRow_117 rfl rfl (show 3 < 6 by decide) (fun _ => rfl) h (fun x_19 h => ?_)
        refine r_iinc 5 (fun x_20 => [(4, .int x_20), (3, .int x_19), (5, .int x_13), (0, .ref (xad X 0)), (1, .int x1), (2, .int x2)]) dX9_goRow_118 rfl rfl ki_1 (show 4 < 6 by decide) (fun _ => rfl) h (fun x_20 h => ?_)
        refine r_goto dX9_goRow_121 rfl ?_
        refine r_sub [3, 4, 5, 1, 0] rfl ?_
        exact hr36 σ18 x1 x2 x_19 x_20 h
      · refine r_iconst dX9_goRow_105 rfl ki_1 ?_
        refine r_goto dX9_goRow_106 rfl ?_
        refine r_istoreV_n [(3, .int (1 : Int32)), (5, .int x_13), (0, .ref (xad X 0)), (1, .int x1), (2, .int x2), (4, .int x4)] dX9_goRow_117 rfl rfl (show 3 < 6 by decide) rfl ?_
        refine r_iinc 5 (fun x_21 => [(4, .int x_21), (3, .int (1 : Int32)), (5, .int x_13), (0, .ref (xad X 0)), (1, .int x1), (2, .int x2)]) dX9_goRow_118 rfl rfl ki_1 (show 4 < 6 by decide) (fun _ => rfl) h (fun x_21 h => ?_)
        refine r_goto dX9_goRow_121 rfl ?_
        refine r_sub [3, 4, 5, 1, 0] rfl ?_
        exact hr36 σ18 x1 x2 (1 : Int32) x_21 h
    · refine r_iconst dX9_goRow_78 rfl ki_0 ?_
      exact r_zret rfl dX9_goRow_79 h hE
noncomputable def FX9_goRow_36 (n : Nat) : Mem → Int32 → Int32 → Int32 → Int32 → Option (Int32 × Mem) :=
  Nat.rec (fun _ _ _ _ _ => none) (fun _ ih => BX9_goRow_36 ih) n
theorem lX9_goRow_36 {X : CX} {out : Int32 × Mem} (hE : Ends X SM (some (.int out.1)) out.2) : ∀ (n : Nat) (σ : Mem) (x1 : Int32) (x2 : Int32) (x3 : Int32) (x4 : Int32), FX9_goRow_36 n σ x1 x2 x3 x4 = some out → J X SM mX9_goRow σ 36 [(0, .ref (xad X 0)), (1, .int x1), (2, .int x2), (3, .int x3), (4, .int x4)] [] := by
  intro n
  induction n with
  | zero => intro σ x1 x2 x3 x4 h; exact nn h
  | succ n ih => intro σ x1 x2 x3 x4 h; exact jX9_goRow_36 hE (FX9_goRow_36 n) ih σ x1 x2 x3 x4 h
noncomputable def BX9_goRow_5 (rl5 : Mem → Int32 → Int32 → Int32 → Int32 → Option (Int32 × Mem)) (σ : Mem) (x1 : Int32) (x2 : Int32) (x3 : Int32) (x4 : Int32) : Option (Int32 × Mem) :=
  if x2 ≤ x4 then
  (stL σ 25 4 (0 : Int32) (0 : Int64) fun σ22 =>
  FX9_goRow_36 FU σ22 x1 x2 x3 (0 : Int32))
  else
  (nm (x3 * ((4 : Int32) * (σ.1 0 3))) fun x_23 =>
  nm (x4 + (1 : Int32)) fun x_24 =>
  rl5 σ x1 x2 x_23 x_24)
set_option maxHeartbeats 4000000 in
set_option maxRecDepth 100000 in
theorem jX9_goRow_5 {X : CX} {out : Int32 × Mem} (hE : Ends X SM (some (.int out.1)) out.2) (rl5 : Mem → Int32 → Int32 → Int32 → Int32 → Option (Int32 × Mem)) (hr5 : ∀ (σ : Mem) (x1 : Int32) (x2 : Int32) (x3 : Int32) (x4 : Int32), rl5 σ x1 x2 x3 x4 = some out → J X SM mX9_goRow σ 5 [(0, .ref (xad X 0)), (1, .int x1), (2, .int x2), (3, .int x3), (4, .int x4)] []) (σ : Mem) (x1 : Int32) (x2 : Int32) (x3 : Int32) (x4 : Int32) (h : BX9_goRow_5 rl5 σ x1 x2 x3 x4 = some out) : J X SM mX9_goRow σ 5 [(0, .ref (xad X 0)), (1, .int x1), (2, .int x2), (3, .int x3), (4, .int x4)] [] := by
  refine r_iload 4 dX9_goRow_5 rfl rfl ?_
  refine r_iload_n 2 dX9_goRow_7 rfl rfl rfl ?_
  refine r_icmp_ge dX9_goRow_8 rfl rfl h (fun c h => ?_) (fun c h => ?_)
  · refine r_aload_n 0 dX9_goRow_26 rfl rfl rfl ?_
    refine r_getR fg_RX9_84 rfl rfl dX9_goRow_27 rfl ?_
    refine r_iconst dX9_goRow_30 rfl ki_0 ?_
    refine r_lconst dX9_goRow_31 rfl kl_0 ?_
    refine r_last rfl dX9_goRow_32 rfl h (fun σ22 h => ?_)
    refine r_iconst dX9_goRow_33 rfl ki_0 ?_
    refine r_istoreV [(4, .int (0 : Int32)), (0, .ref (xad X 0)), (1, .int x1), (2, .int x2), (3, .int x3)] dX9_goRow_34 rfl (show 4 < 6 by decide) rfl ?_
    refine r_sub [1, 2, 3, 4, 0] rfl ?_
    exact lX9_goRow_36 hE FU σ22 x1 x2 x3 (0 : Int32) h
  · refine r_iload_n 3 dX9_goRow_11 rfl rfl rfl ?_
    refine r_iconst dX9_goRow_12 rfl ki_4 ?_
    refine r_aload_n 0 dX9_goRow_13 rfl rfl rfl ?_
    refine r_getI fg_RX9_179 rfl rfl dX9_goRow_14 rfl ?_
    refine r_imul dX9_goRow_17 rfl ?_
    refine r_imul dX9_goRow_18 rfl ?_
    refine r_istore_n (fun x_23 => [(3, .int x_23), (0, .ref (xad X 0)), (1, .int x1), (2, .int x2), (4, .int x4)]) dX9_goRow_19 rfl rfl (show 3 < 6 by decide) (fun _ => rfl) h (fun x_23 h => ?_)
    refine r_iinc 4 (fun x_24 => [(4, .int x_24), (3, .int x_23), (0, .ref (xad X 0)), (1, .int x1), (2, .int x2)]) dX9_goRow_20 rfl rfl ki_1 (show 4 < 6 by decide) (fun _ => rfl) h (fun x_24 h => ?_)
    refine r_goto dX9_goRow_23 rfl ?_
    refine r_sub [2, 3, 4, 1, 0] rfl ?_
    exact hr5 σ x1 x2 x_23 x_24 h
noncomputable def FX9_goRow_5 (n : Nat) : Mem → Int32 → Int32 → Int32 → Int32 → Option (Int32 × Mem) :=
  Nat.rec (fun _ _ _ _ _ => none) (fun _ ih => BX9_goRow_5 ih) n
theorem lX9_goRow_5 {X : CX} {out : Int32 × Mem} (hE : Ends X SM (some (.int out.1)) out.2) : ∀ (n : Nat) (σ : Mem) (x1 : Int32) (x2 : Int32) (x3 : Int32) (x4 : Int32), FX9_goRow_5 n σ x1 x2 x3 x4 = some out → J X SM mX9_goRow σ 5 [(0, .ref (xad X 0)), (1, .int x1), (2, .int x2), (3, .int x3), (4, .int x4)] [] := by
  intro n
  induction n with
  | zero => intro σ x1 x2 x3 x4 h; exact nn h
  | succ n ih => intro σ x1 x2 x3 x4 h; exact jX9_goRow_5 hE (FX9_goRow_5 n) ih σ x1 x2 x3 x4 h
noncomputable def FX9_goRow (σ : Mem) (a1 : Int32) (a2 : Int32) : Option (Int32 × Mem) :=
  FX9_goRow_5 FU σ a1 a2 (1 : Int32) (1 : Int32)
set_option maxHeartbeats 4000000 in
set_option maxRecDepth 100000 in
theorem eX9_goRow {X : CX} {out : Int32 × Mem} (hE : Ends X SM (some (.int out.1)) out.2) (σ : Mem) (a1 : Int32) (a2 : Int32) (h : FX9_goRow σ a1 a2 = some out) : J X SM mX9_goRow σ 0 [(0, .ref (xad X 0)), (1, .int a1), (2, .int a2)] [] := by
  refine r_iconst dX9_goRow_0 rfl ki_1 ?_
  refine r_istoreV_n [(3, .int (1 : Int32)), (0, .ref (xad X 0)), (1, .int a1), (2, .int a2)] dX9_goRow_1 rfl rfl (show 3 < 6 by decide) rfl ?_
  refine r_iconst dX9_goRow_2 rfl ki_1 ?_
  refine r_istoreV [(4, .int (1 : Int32)), (3, .int (1 : Int32)), (0, .ref (xad X 0)), (1, .int a1), (2, .int a2)] dX9_goRow_3 rfl (show 4 < 6 by decide) rfl ?_
  refine r_sub [2, 3, 4, 1, 0] rfl ?_
  exact lX9_goRow_5 hE FU σ a1 a2 (1 : Int32) (1 : Int32) h
theorem coX9_goRow (σ : Mem) (a1 : Int32) (a2 : Int32) (r : Int32) (σ2 : Mem) (h : FX9_goRow σ a1 a2 = some (r, σ2)) : Con SM 5 yX9_goRow cX9_goRow 6 (some .boolean) (fun ad => [.ref (ad 0), .int a1, .int a2]) σ (fun _ => some (.int r)) σ2 :=
  con_of (by decide +kernel) (fun _ => Nat.le_of_ble_eq_true rfl) (fun X hE => eX9_goRow (out := (r, σ2)) hE σ a1 a2 h)
-- IceYardModel groundOf
abbrev mX9_groundOf : MD := (cX9_groundOf, RX9, 1, (some .int), 1)
noncomputable def FX9_groundOf (σ : Mem) (a0 : Int32) : Option (Int32 × Mem) :=
  if a0 = (35 : Int32) then
  (some ((1 : Int32), σ))
  else
  (if a0 = (46 : Int32) then
  (some ((0 : Int32), σ))
  else
  (if a0 = (97 : Int32) then
  (some ((4 : Int32), σ))
  else
  (if a0 = (98 : Int32) then
  (some ((5 : Int32), σ))
  else
  (if a0 = (99 : Int32) then
  (some ((3 : Int32), σ))
  else
  (if a0 = (100 : Int32) then
  (some ((0 : Int32), σ))
  else
  (if a0 = (108 : Int32) then
  (some ((0 : Int32), σ))
  else
  (if a0 = (111 : Int32) then
  (some ((0 : Int32), σ))
  else
  (if a0 = (115 : Int32) then
  (some ((2 : Int32), σ))
  else
  (some ((-9 : Int32), σ))))))))))
set_option maxHeartbeats 4000000 in
set_option maxRecDepth 100000 in
theorem eX9_groundOf {X : CX} {out : Int32 × Mem} (hE : Ends X SM (some (.int out.1)) out.2) (σ : Mem) (a0 : Int32) (h : FX9_groundOf σ a0 = some out) : J X SM mX9_groundOf σ 0 [(0, .int a0)] [] := by
  refine r_iload_n 0 dX9_groundOf_0 rfl rfl rfl ?_
  refine cpI h (fun c h => ?_) (fun n1_0 h => ?_)
  · refine r_lookup dX9_groundOf_1 (by decide) (by rw [c] <;> rfl) rfl ?_
    refine r_iconst dX9_groundOf_86 rfl ki_1 ?_
    exact r_iret rfl dX9_groundOf_87 h hE
  · refine cpI h (fun c h => ?_) (fun n1_1 h => ?_)
    · refine r_lookup dX9_groundOf_1 (by decide) (by rw [c] <;> rfl) rfl ?_
      refine r_iconst dX9_groundOf_84 rfl ki_0 ?_
      exact r_iret rfl dX9_groundOf_85 h hE
    · refine cpI h (fun c h => ?_) (fun n1_2 h => ?_)
      · refine r_lookup dX9_groundOf_1 (by decide) (by rw [c] <;> rfl) rfl ?_
        refine r_iconst dX9_groundOf_92 rfl ki_4 ?_
        exact r_iret rfl dX9_groundOf_93 h hE
      · refine cpI h (fun c h => ?_) (fun n1_3 h => ?_)
        · refine r_lookup dX9_groundOf_1 (by decide) (by rw [c] <;> rfl) rfl ?_
          refine r_iconst dX9_groundOf_94 rfl ki_5 ?_
          exact r_iret rfl dX9_groundOf_95 h hE
        · refine cpI h (fun c h => ?_) (fun n1_4 h => ?_)
          · refine r_lookup dX9_groundOf_1 (by decide) (by rw [c] <;> rfl) rfl ?_
            refine r_iconst dX9_groundOf_90 rfl ki_3 ?_
            exact r_iret rfl dX9_groundOf_91 h hE
          · refine cpI h (fun c h => ?_) (fun n1_5 h => ?_)
            · refine r_lookup dX9_groundOf_1 (by decide) (by rw [c] <;> rfl) rfl ?_
              refine r_iconst dX9_groundOf_84 rfl ki_0 ?_
              exact r_iret rfl dX9_groundOf_85 h hE
            · refine cpI h (fun c h => ?_) (fun n1_6 h => ?_)
              · refine r_lookup dX9_groundOf_1 (by decide) (by rw [c] <;> rfl) rfl ?_
                refine r_iconst dX9_groundOf_84 rfl ki_0 ?_
                exact r_iret rfl dX9_groundOf_85 h hE
              · refine cpI h (fun c h => ?_) (fun n1_7 h => ?_)
                · refine r_lookup dX9_groundOf_1 (by decide) (by rw [c] <;> rfl) rfl ?_
                  refine r_iconst dX9_groundOf_84 rfl ki_0 ?_
                  exact r_iret rfl dX9_groundOf_85 h hE
                · refine cpI h (fun c h => ?_) (fun n1_8 h => ?_)
                  · refine r_lookup dX9_groundOf_1 (by decide) (by rw [c] <;> rfl) rfl ?_
                    refine r_iconst dX9_groundOf_88 rfl ki_2 ?_
                    exact r_iret rfl dX9_groundOf_89 h hE
                  · refine r_lookup dX9_groundOf_1 (by decide) (by show Op.lookupswitch.offset [(35, 85), (46, 83), (97, 91), (98, 93), (99, 89), (100, 83), (108, 83), (111, 83), (115, 87)] (95) _ = _; rw [lv_osw n1_0 (by decide), lv_osw n1_1 (by decide), lv_osw n1_2 (by decide), lv_osw n1_3 (by decide), lv_osw n1_4 (by decide), lv_osw n1_5 (by decide), lv_osw n1_6 (by decide), lv_osw n1_7 (by decide), lv_osw n1_8 (by decide)] <;> rfl) rfl ?_
                    refine r_bipush dX9_groundOf_96 rfl kb_m9 ?_
                    exact r_iret rfl dX9_groundOf_98 h hE
theorem coX9_groundOf (σ : Mem) (a0 : Int32) (r : Int32) (σ2 : Mem) (h : FX9_groundOf σ a0 = some (r, σ2)) : Con SM 1 yX9_groundOf cX9_groundOf 1 (some .int) (fun ad => [.int a0]) σ (fun _ => some (.int r)) σ2 :=
  con_of (by decide +kernel) (fun _ => Nat.le_of_ble_eq_true rfl) (fun X hE => eX9_groundOf (out := (r, σ2)) hE σ a0 h)
-- IceYardModel keep
abbrev mX9_keep : MD := (cX9_keep, RX9, 3, (some .int), 2)
noncomputable def BX9_keep_33 (rl33 : Mem → Int32 → Int32 → Option (Int32 × Mem)) (σ : Mem) (x1 : Int32) (x2 : Int32) : Option (Int32 × Mem) :=
  if (6 : Int32) ≤ x2 then
  (stL σ 14 3 x1 (σ.2 0 8) fun σ8 =>
  some ((1 : Int32), σ8))
  else
  (rd x2 6 fun j9 =>
  stI σ 13 18 (((6 : Int32) * x1) + x2) (σ.1 4 j9) fun σ10 =>
  nm (x2 + (1 : Int32)) fun x_11 =>
  rl33 σ10 x1 x_11)
set_option maxHeartbeats 4000000 in
set_option maxRecDepth 100000 in
theorem jX9_keep_33 {X : CX} {out : Int32 × Mem} (hE : Ends X SM (some (.int out.1)) out.2) (rl33 : Mem → Int32 → Int32 → Option (Int32 × Mem)) (hr33 : ∀ (σ : Mem) (x1 : Int32) (x2 : Int32), rl33 σ x1 x2 = some out → J X SM mX9_keep σ 33 [(0, .ref (xad X 0)), (1, .int x1), (2, .int x2)] []) (σ : Mem) (x1 : Int32) (x2 : Int32) (h : BX9_keep_33 rl33 σ x1 x2 = some out) : J X SM mX9_keep σ 33 [(0, .ref (xad X 0)), (1, .int x1), (2, .int x2)] [] := by
  refine r_iload_n 2 dX9_keep_33 rfl rfl rfl ?_
  refine r_bipush dX9_keep_34 rfl kb_6 ?_
  refine r_icmp_ge dX9_keep_36 rfl rfl h (fun c h => ?_) (fun c h => ?_)
  · refine r_aload_n 0 dX9_keep_62 rfl rfl rfl ?_
    refine r_getR fg_RX9_51 rfl rfl dX9_keep_63 rfl ?_
    refine r_iload_n 1 dX9_keep_66 rfl rfl rfl ?_
    refine r_aload_n 0 dX9_keep_67 rfl rfl rfl ?_
    refine r_getL fg_RX9_186 rfl rfl dX9_keep_68 rfl ?_
    refine r_last rfl dX9_keep_71 rfl h (fun σ8 h => ?_)
    refine r_iconst dX9_keep_72 rfl ki_1 ?_
    exact r_iret rfl dX9_keep_73 h hE
  · refine r_aload_n 0 dX9_keep_39 rfl rfl rfl ?_
    refine r_getR fg_RX9_48 rfl rfl dX9_keep_40 rfl ?_
    refine r_bipush dX9_keep_43 rfl kb_6 ?_
    refine r_iload_n 1 dX9_keep_45 rfl rfl rfl ?_
    refine r_imul dX9_keep_46 rfl ?_
    refine r_iload_n 2 dX9_keep_47 rfl rfl rfl ?_
    refine r_iadd dX9_keep_48 rfl ?_
    refine r_aload_n 0 dX9_keep_49 rfl rfl rfl ?_
    refine r_getR fg_RX9_19 rfl rfl dX9_keep_50 rfl ?_
    refine r_iload_n 2 dX9_keep_53 rfl rfl rfl ?_
    refine r_iald rfl dX9_keep_54 rfl h (fun j9 h => ?_)
    refine r_iast rfl dX9_keep_55 rfl h (fun σ10 h => ?_)
    refine r_iinc 2 (fun x_11 => [(2, .int x_11), (0, .ref (xad X 0)), (1, .int x1)]) dX9_keep_56 rfl rfl ki_1 (show 2 < 3 by decide) (fun _ => rfl) h (fun x_11 h => ?_)
    refine r_goto dX9_keep_59 rfl ?_
    refine r_sub [1, 2, 0] rfl ?_
    exact hr33 σ10 x1 x_11 h
noncomputable def FX9_keep_33 (n : Nat) : Mem → Int32 → Int32 → Option (Int32 × Mem) :=
  Nat.rec (fun _ _ _ => none) (fun _ ih => BX9_keep_33 ih) n
theorem lX9_keep_33 {X : CX} {out : Int32 × Mem} (hE : Ends X SM (some (.int out.1)) out.2) : ∀ (n : Nat) (σ : Mem) (x1 : Int32) (x2 : Int32), FX9_keep_33 n σ x1 x2 = some out → J X SM mX9_keep σ 33 [(0, .ref (xad X 0)), (1, .int x1), (2, .int x2)] [] := by
  intro n
  induction n with
  | zero => intro σ x1 x2 h; exact nn h
  | succ n ih => intro σ x1 x2 h; exact jX9_keep_33 hE (FX9_keep_33 n) ih σ x1 x2 h
noncomputable def FX9_keep (σ : Mem) (a1 : Int32) : Option (Int32 × Mem) :=
  bi (FX9_in σ ((a1).toInt64) (0 : Int64) (2 : Int64)) fun r13 σ12 =>
  if r13 = 0 then
  (some ((-1 : Int32), σ12))
  else
  (if (σ12.1 0 1) = 0 then
  (some ((-3 : Int32), σ12))
  else
  (stZ σ12 12 3 a1 (1 : Int32) fun σ14 =>
  FX9_keep_33 FU σ14 a1 (0 : Int32)))
set_option maxHeartbeats 4000000 in
set_option maxRecDepth 100000 in
theorem eX9_keep {X : CX} {out : Int32 × Mem} (hE : Ends X SM (some (.int out.1)) out.2) (σ : Mem) (a1 : Int32) (h : FX9_keep σ a1 = some out) : J X SM mX9_keep σ 0 [(0, .ref (xad X 0)), (1, .int a1)] [] := by
  refine r_iload_n 1 dX9_keep_0 rfl rfl rfl ?_
  refine r_i2l dX9_keep_1 rfl ?_
  refine r_lconst dX9_keep_2 rfl kl_0 ?_
  refine r_ldc2 dX9_keep_3 rfl cl_RX9_166 ?_
  obtain ⟨r13, σ12, hc, h⟩ := bi_of h
  refine r_callS [] [.int r13]  (coX9_in σ ((a1).toInt64) (0 : Int64) (2 : Int64) r13 σ12 hc) ms_RX9_142 (by decide) rfl rfl (Nat.le_of_ble_eq_true rfl) rfl dX9_keep_6 rfl ?_
  refine r_if_ne dX9_keep_9 rfl rfl h (fun c h => ?_) (fun c h => ?_)
  · refine r_aload_n 0 dX9_keep_14 rfl rfl rfl ?_
    refine r_getI fg_RX9_115 rfl rfl dX9_keep_15 rfl ?_
    refine r_if_ne dX9_keep_18 rfl rfl h (fun c h => ?_) (fun c h => ?_)
    · refine r_aload_n 0 dX9_keep_24 rfl rfl rfl ?_
      refine r_getR fg_RX9_44 rfl rfl dX9_keep_25 rfl ?_
      refine r_iload_n 1 dX9_keep_28 rfl rfl rfl ?_
      refine r_iconst dX9_keep_29 rfl ki_1 ?_
      refine r_zast rfl dX9_keep_30 rfl h (fun σ14 h => ?_)
      refine r_iconst dX9_keep_31 rfl ki_0 ?_
      refine r_istoreV_n [(2, .int (0 : Int32)), (0, .ref (xad X 0)), (1, .int a1)] dX9_keep_32 rfl rfl (show 2 < 3 by decide) rfl ?_
      refine r_sub [1, 2, 0] rfl ?_
      exact lX9_keep_33 hE FU σ14 a1 (0 : Int32) h
    · refine r_bipush dX9_keep_21 rfl kb_m3 ?_
      exact r_iret rfl dX9_keep_23 h hE
  · refine r_iconst dX9_keep_12 rfl ki_m1 ?_
    exact r_iret rfl dX9_keep_13 h hE
theorem coX9_keep (σ : Mem) (a1 : Int32) (r : Int32) (σ2 : Mem) (h : FX9_keep σ a1 = some (r, σ2)) : Con SM 2 yX9_keep cX9_keep 3 (some .int) (fun ad => [.ref (ad 0), .int a1]) σ (fun _ => some (.int r)) σ2 :=
  con_of (by decide +kernel) (fun _ => Nat.le_of_ble_eq_true rfl) (fun X hE => eX9_keep (out := (r, σ2)) hE σ a1 h)
-- IceYardModel traced
abbrev mX9_traced : MD := (cX9_traced, RX9, 2, none, 1)
noncomputable def FX9_traced (σ : Mem) (a1 : Int32) : Option (Mem) :=
  nm (setI σ 0 51 (((31 : Int32) * (σ.1 0 51)) + a1)) fun σ2 =>
  some σ2
set_option maxHeartbeats 4000000 in
set_option maxRecDepth 100000 in
theorem eX9_traced {X : CX} {out : Mem} (hE : Ends X SM none out) (σ : Mem) (a1 : Int32) (h : FX9_traced σ a1 = some out) : J X SM mX9_traced σ 0 [(0, .ref (xad X 0)), (1, .int a1)] [] := by
  refine r_aload_n 0 dX9_traced_0 rfl rfl rfl ?_
  refine r_bipush dX9_traced_1 rfl kb_31 ?_
  refine r_aload_n 0 dX9_traced_3 rfl rfl rfl ?_
  refine r_getI fg_RX9_317 rfl rfl dX9_traced_4 rfl ?_
  refine r_imul dX9_traced_7 rfl ?_
  refine r_iload_n 1 dX9_traced_8 rfl rfl rfl ?_
  refine r_iadd dX9_traced_9 rfl ?_
  refine r_putI fp_RX9_317 rfl rfl dX9_traced_10 rfl h (fun σ2 h => ?_)
  exact r_vret rfl dX9_traced_13 h hE
theorem coX9_traced (σ : Mem) (a1 : Int32) (σ2 : Mem) (h : FX9_traced σ a1 = some σ2) : Con SM 1 yX9_traced cX9_traced 2 none (fun ad => [.ref (ad 0), .int a1]) σ (fun _ => none) σ2 :=
  con_of (by decide +kernel) (fun _ => Nat.le_of_ble_eq_true rfl) (fun X hE => eX9_traced (out := σ2) hE σ a1 h)
-- IceYardModel kick
abbrev mX9_kick : MD := (cX9_kick, RX9, 2, (some .int), 3)
noncomputable def FX9_kick_26 (σ : Mem) (x1 : Int32) (s0 : Int32) : Option (Int32 × Mem) :=
  bv (FX9_traced σ s0) fun σ6 =>
  rd x1 6 fun j7 =>
  if (σ6.1 2 j7) = (2 : Int32) then
  (some ((60 : Int32), σ6))
  else
  (some (x1, σ6))
set_option maxHeartbeats 4000000 in
set_option maxRecDepth 100000 in
theorem jX9_kick_26 {X : CX} {out : Int32 × Mem} (hE : Ends X SM (some (.int out.1)) out.2) (σ : Mem) (x1 : Int32) (s0 : Int32) (h : FX9_kick_26 σ x1 s0 = some out) : J X SM mX9_kick σ 26 [(0, .ref (xad X 0)), (1, .int x1)] [.int s0, .ref (xad X 0)] := by
  obtain ⟨σ6, hc, h⟩ := bv_of h
  refine r_callV [.int s0] [] []  (coX9_traced σ s0 σ6 hc) mv_RX9_320 (by decide) rfl rfl rfl rfl rfl (Nat.le_of_ble_eq_true rfl) rfl dX9_kick_26 rfl ?_
  refine r_aload_n 0 dX9_kick_29 rfl rfl rfl ?_
  refine r_getR fg_RX9_13 rfl rfl dX9_kick_30 rfl ?_
  refine r_iload_n 1 dX9_kick_33 rfl rfl rfl ?_
  refine r_iald rfl dX9_kick_34 rfl h (fun j7 h => ?_)
  refine r_iconst dX9_kick_35 rfl ki_2 ?_
  refine r_icmp_ne dX9_kick_36 rfl rfl h (fun c h => ?_) (fun c h => ?_)
  · refine r_iload_n 1 dX9_kick_44 rfl rfl rfl ?_
    exact r_iret rfl dX9_kick_45 h hE
  · refine r_bipush dX9_kick_39 rfl kb_60 ?_
    refine r_goto dX9_kick_41 rfl ?_
    exact r_iret rfl dX9_kick_45 h hE
noncomputable def FX9_kick (σ : Mem) (a1 : Int32) : Option (Int32 × Mem) :=
  bi (FX9_noBlock σ a1) fun r9 σ8 =>
  if r9 = 0 then
  (rd a1 6 fun j10 =>
  if (σ8.1 2 j10) = (2 : Int32) then
  (FX9_kick_26 σ8 a1 (5 : Int32))
  else
  (FX9_kick_26 σ8 a1 (4 : Int32)))
  else
  (some ((-1 : Int32), σ8))
set_option maxHeartbeats 4000000 in
set_option maxRecDepth 100000 in
theorem eX9_kick {X : CX} {out : Int32 × Mem} (hE : Ends X SM (some (.int out.1)) out.2) (σ : Mem) (a1 : Int32) (h : FX9_kick σ a1 = some out) : J X SM mX9_kick σ 0 [(0, .ref (xad X 0)), (1, .int a1)] [] := by
  refine r_aload_n 0 dX9_kick_0 rfl rfl rfl ?_
  refine r_iload_n 1 dX9_kick_1 rfl rfl rfl ?_
  obtain ⟨r9, σ8, hc, h⟩ := bi_of h
  refine r_callV [.int a1] [] [.int r9]  (coX9_noBlock σ a1 r9 σ8 hc) mv_RX9_202 (by decide) rfl rfl rfl rfl rfl (Nat.le_of_ble_eq_true rfl) rfl dX9_kick_2 rfl ?_
  refine r_if_eq dX9_kick_5 rfl rfl h (fun c h => ?_) (fun c h => ?_)
  · refine r_aload_n 0 dX9_kick_10 rfl rfl rfl ?_
    refine r_aload_n 0 dX9_kick_11 rfl rfl rfl ?_
    refine r_getR fg_RX9_13 rfl rfl dX9_kick_12 rfl ?_
    refine r_iload_n 1 dX9_kick_15 rfl rfl rfl ?_
    refine r_iald rfl dX9_kick_16 rfl h (fun j10 h => ?_)
    refine r_iconst dX9_kick_17 rfl ki_2 ?_
    refine r_icmp_ne dX9_kick_18 rfl rfl h (fun c h => ?_) (fun c h => ?_)
    · refine r_iconst dX9_kick_25 rfl ki_4 ?_
      exact jX9_kick_26 hE σ8 a1 (4 : Int32) h
    · refine r_iconst dX9_kick_21 rfl ki_5 ?_
      refine r_goto dX9_kick_22 rfl ?_
      exact jX9_kick_26 hE σ8 a1 (5 : Int32) h
  · refine r_iconst dX9_kick_8 rfl ki_m1 ?_
    exact r_iret rfl dX9_kick_9 h hE
theorem coX9_kick (σ : Mem) (a1 : Int32) (r : Int32) (σ2 : Mem) (h : FX9_kick σ a1 = some (r, σ2)) : Con SM 3 yX9_kick cX9_kick 2 (some .int) (fun ad => [.ref (ad 0), .int a1]) σ (fun _ => some (.int r)) σ2 :=
  con_of (by decide +kernel) (fun _ => Nat.le_of_ble_eq_true rfl) (fun X hE => eX9_kick (out := (r, σ2)) hE σ a1 h)
-- IceYardModel lose
abbrev mX9_lose : MD := (cX9_lose, RX9, 3, (some .int), 3)
noncomputable def FX9_lose_23 (σ : Mem) (x1 : Int32) (s0 : Int32) : Option (Int32 × Mem) :=
  stI σ 28 4 x1 (-1 : Int32) fun σ5 =>
  some (s0, σ5)
set_option maxHeartbeats 4000000 in
set_option maxRecDepth 100000 in
theorem jX9_lose_23 {X : CX} {out : Int32 × Mem} (hE : Ends X SM (some (.int out.1)) out.2) (σ : Mem) (x1 : Int32) (s0 : Int32) (h : FX9_lose_23 σ x1 s0 = some out) : J X SM mX9_lose σ 23 [(0, .ref (xad X 0)), (1, .int x1)] [.int s0] := by
  refine r_istoreV_n [(2, .int s0), (0, .ref (xad X 0)), (1, .int x1)] dX9_lose_23 rfl rfl (show 2 < 3 by decide) rfl ?_
  refine r_aload_n 1 dX9_lose_24 rfl rfl rfl ?_
  refine r_getR fg_RX9_93 rfl rfl dX9_lose_25 rfl ?_
  refine r_iload_n 2 dX9_lose_28 rfl rfl rfl ?_
  refine r_iconst dX9_lose_29 rfl ki_m1 ?_
  refine r_iast rfl dX9_lose_30 rfl h (fun σ5 h => ?_)
  refine r_iload_n 0 dX9_lose_31 rfl rfl rfl ?_
  exact r_iret rfl dX9_lose_32 h hE
noncomputable def FX9_lose (σ : Mem) (a1 : Int32) : Option (Int32 × Mem) :=
  bi (FX9_noSheet σ a1) fun r7 σ6 =>
  if r7 = 0 then
  (rd a1 4 fun j8 =>
  if 0 ≤ (σ6.1 28 j8) then
  (FX9_lose_23 σ6 a1 (1 : Int32))
  else
  (FX9_lose_23 σ6 a1 (0 : Int32)))
  else
  (some ((-1 : Int32), σ6))
set_option maxHeartbeats 4000000 in
set_option maxRecDepth 100000 in
theorem eX9_lose {X : CX} {out : Int32 × Mem} (hE : Ends X SM (some (.int out.1)) out.2) (σ : Mem) (a1 : Int32) (h : FX9_lose σ a1 = some out) : J X SM mX9_lose σ 0 [(0, .ref (xad X 0)), (1, .int a1)] [] := by
  refine r_iload_n 1 dX9_lose_0 rfl rfl rfl ?_
  obtain ⟨r7, σ6, hc, h⟩ := bi_of h
  refine r_callS [] [.int r7]  (coX9_noSheet σ a1 r7 σ6 hc) ms_RX9_159 (by decide) rfl rfl (Nat.le_of_ble_eq_true rfl) rfl dX9_lose_1 rfl ?_
  refine r_if_eq dX9_lose_4 rfl rfl h (fun c h => ?_) (fun c h => ?_)
  · refine r_aload_n 0 dX9_lose_9 rfl rfl rfl ?_
    refine r_getR fg_RX9_93 rfl rfl dX9_lose_10 rfl ?_
    refine r_iload_n 1 dX9_lose_13 rfl rfl rfl ?_
    refine r_iald rfl dX9_lose_14 rfl h (fun j8 h => ?_)
    refine r_if_ge dX9_lose_15 rfl rfl h (fun c h => ?_) (fun c h => ?_)
    · refine r_iconst dX9_lose_22 rfl ki_1 ?_
      exact jX9_lose_23 hE σ6 a1 (1 : Int32) h
    · refine r_iconst dX9_lose_18 rfl ki_0 ?_
      refine r_goto dX9_lose_19 rfl ?_
      exact jX9_lose_23 hE σ6 a1 (0 : Int32) h
  · refine r_iconst dX9_lose_7 rfl ki_m1 ?_
    exact r_iret rfl dX9_lose_8 h hE
theorem coX9_lose (σ : Mem) (a1 : Int32) (r : Int32) (σ2 : Mem) (h : FX9_lose σ a1 = some (r, σ2)) : Con SM 3 yX9_lose cX9_lose 3 (some .int) (fun ad => [.ref (ad 0), .int a1]) σ (fun _ => some (.int r)) σ2 :=
  con_of (by decide +kernel) (fun _ => Nat.le_of_ble_eq_true rfl) (fun X hE => eX9_lose (out := (r, σ2)) hE σ a1 h)
-- IceYardModel many
abbrev mX9_many : MD := (cX9_many, RX9, 2, (some .int), 3)
noncomputable def FX9_many (σ : Mem) (a1 : Int32) : Option (Int32 × Mem) :=
  if a1 = (0 : Int32) then
  (some ((σ.1 0 1), σ))
  else
  (if a1 = (1 : Int32) then
  (some ((σ.1 0 2), σ))
  else
  (if a1 = (2 : Int32) then
  (some ((σ.1 0 3), σ))
  else
  (if a1 = (3 : Int32) then
  (bi (FX9_cracksOpen σ) fun r4 σ3 =>
  some (r4, σ3))
  else
  (if a1 = (4 : Int32) then
  (some ((σ.1 0 22), σ))
  else
  (some ((-2 : Int32), σ))))))
set_option maxHeartbeats 4000000 in
set_option maxRecDepth 100000 in
theorem eX9_many {X : CX} {out : Int32 × Mem} (hE : Ends X SM (some (.int out.1)) out.2) (σ : Mem) (a1 : Int32) (h : FX9_many σ a1 = some out) : J X SM mX9_many σ 0 [(0, .ref (xad X 0)), (1, .int a1)] [] := by
  refine r_iload_n 1 dX9_many_0 rfl rfl rfl ?_
  refine cpI h (fun c h => ?_) (fun n1_0 h => ?_)
  · refine r_tableIn dX9_many_1 (by rw [c]; decide) (by rw [c]; decide) (by rw [c] <;> rfl) rfl ?_
    refine r_aload_n 0 dX9_many_36 rfl rfl rfl ?_
    refine r_getI fg_RX9_115 rfl rfl dX9_many_37 rfl ?_
    exact r_iret rfl dX9_many_40 h hE
  · refine cpI h (fun c h => ?_) (fun n1_1 h => ?_)
    · refine r_tableIn dX9_many_1 (by rw [c]; decide) (by rw [c]; decide) (by rw [c] <;> rfl) rfl ?_
      refine r_aload_n 0 dX9_many_41 rfl rfl rfl ?_
      refine r_getI fg_RX9_118 rfl rfl dX9_many_42 rfl ?_
      exact r_iret rfl dX9_many_45 h hE
    · refine cpI h (fun c h => ?_) (fun n1_2 h => ?_)
      · refine r_tableIn dX9_many_1 (by rw [c]; decide) (by rw [c]; decide) (by rw [c] <;> rfl) rfl ?_
        refine r_aload_n 0 dX9_many_46 rfl rfl rfl ?_
        refine r_getI fg_RX9_179 rfl rfl dX9_many_47 rfl ?_
        exact r_iret rfl dX9_many_50 h hE
      · refine cpI h (fun c h => ?_) (fun n1_3 h => ?_)
        · refine r_tableIn dX9_many_1 (by rw [c]; decide) (by rw [c]; decide) (by rw [c] <;> rfl) rfl ?_
          refine r_aload_n 0 dX9_many_51 rfl rfl rfl ?_
          obtain ⟨r4, σ3, hc, h⟩ := bi_of h
          refine r_callV [] [] [.int r4]  (coX9_cracksOpen σ r4 σ3 hc) mv_RX9_323 (by decide) rfl rfl rfl rfl rfl (Nat.le_of_ble_eq_true rfl) rfl dX9_many_52 rfl ?_
          exact r_iret rfl dX9_many_55 h hE
        · refine cpI h (fun c h => ?_) (fun n1_4 h => ?_)
          · refine r_tableIn dX9_many_1 (by rw [c]; decide) (by rw [c]; decide) (by rw [c] <;> rfl) rfl ?_
            refine r_aload_n 0 dX9_many_56 rfl rfl rfl ?_
            refine r_getI fg_RX9_193 rfl rfl dX9_many_57 rfl ?_
            exact r_iret rfl dX9_many_60 h hE
          · refine r_tableOut dX9_many_1 (by have b0 := lv_neT (a := 0) n1_0 (by decide); have b1 := lv_neT (a := 1) n1_1 (by decide); have b2 := lv_neT (a := 2) n1_2 (by decide); have b3 := lv_neT (a := 3) n1_3 (by decide); have b4 := lv_neT (a := 4) n1_4 (by decide); omega) rfl ?_
            refine r_bipush dX9_many_61 rfl kb_m2 ?_
            exact r_iret rfl dX9_many_63 h hE
theorem coX9_many (σ : Mem) (a1 : Int32) (r : Int32) (σ2 : Mem) (h : FX9_many σ a1 = some (r, σ2)) : Con SM 3 yX9_many cX9_many 2 (some .int) (fun ad => [.ref (ad 0), .int a1]) σ (fun _ => some (.int r)) σ2 :=
  con_of (by decide +kernel) (fun _ => Nat.le_of_ble_eq_true rfl) (fun X hE => eX9_many (out := (r, σ2)) hE σ a1 h)
-- IceYardModel maySand
abbrev mX9_maySand : MD := (cX9_maySand, RX9, 2, (some .boolean), 2)
noncomputable def FX9_maySand (σ : Mem) (a1 : Int32) : Option (Int32 × Mem) :=
  rd a1 36 fun j4 =>
  if (σ.1 1 j4) = 0 then
  (bi (FX9_blockIn σ a1) fun r6 σ5 =>
  if 0 ≤ r6 then
  (rz (0 : Int32) σ5)
  else
  (rz (1 : Int32) σ5))
  else
  (rz (0 : Int32) σ)
set_option maxHeartbeats 4000000 in
set_option maxRecDepth 100000 in
theorem eX9_maySand {X : CX} {out : Int32 × Mem} (hE : Ends X SM (some (.int out.1)) out.2) (σ : Mem) (a1 : Int32) (h : FX9_maySand σ a1 = some out) : J X SM mX9_maySand σ 0 [(0, .ref (xad X 0)), (1, .int a1)] [] := by
  refine r_aload_n 0 dX9_maySand_0 rfl rfl rfl ?_
  refine r_getR fg_RX9_7 rfl rfl dX9_maySand_1 rfl ?_
  refine r_iload_n 1 dX9_maySand_4 rfl rfl rfl ?_
  refine r_iald rfl dX9_maySand_5 rfl h (fun j4 h => ?_)
  refine r_if_ne dX9_maySand_6 rfl rfl h (fun c h => ?_) (fun c h => ?_)
  · refine r_iconst dX9_maySand_21 rfl ki_0 ?_
    exact r_zret rfl dX9_maySand_22 h hE
  · refine r_aload_n 0 dX9_maySand_9 rfl rfl rfl ?_
    refine r_iload_n 1 dX9_maySand_10 rfl rfl rfl ?_
    obtain ⟨r6, σ5, hc, h⟩ := bi_of h
    refine r_callV [.int a1] [] [.int r6]  (coX9_blockIn σ a1 r6 σ5 hc) mv_RX9_196 (by decide) rfl rfl rfl rfl rfl (Nat.le_of_ble_eq_true rfl) rfl dX9_maySand_11 rfl ?_
    refine r_if_ge dX9_maySand_14 rfl rfl h (fun c h => ?_) (fun c h => ?_)
    · refine r_iconst dX9_maySand_21 rfl ki_0 ?_
      exact r_zret rfl dX9_maySand_22 h hE
    · refine r_iconst dX9_maySand_17 rfl ki_1 ?_
      refine r_goto dX9_maySand_18 rfl ?_
      exact r_zret rfl dX9_maySand_22 h hE
theorem coX9_maySand (σ : Mem) (a1 : Int32) (r : Int32) (σ2 : Mem) (h : FX9_maySand σ a1 = some (r, σ2)) : Con SM 2 yX9_maySand cX9_maySand 2 (some .boolean) (fun ad => [.ref (ad 0), .int a1]) σ (fun _ => some (.int r)) σ2 :=
  con_of (by decide +kernel) (fun _ => Nat.le_of_ble_eq_true rfl) (fun X hE => eX9_maySand (out := (r, σ2)) hE σ a1 h)
-- IceYardModel ofBlock
abbrev mX9_ofBlock : MD := (cX9_ofBlock, RX9, 3, (some .int), 3)
noncomputable def FX9_ofBlock (σ : Mem) (a1 : Int32) (a2 : Int32) : Option (Int32 × Mem) :=
  bi (FX9_noBlock σ a1) fun r6 σ5 =>
  if r6 = 0 then
  (if a2 = 0 then
  (rd a1 6 fun j8 =>
  some ((σ5.1 2 j8), σ5))
  else
  (if a2 = (1 : Int32) then
  (rd a1 6 fun j7 =>
  some ((σ5.1 4 j7), σ5))
  else
  (some ((-2 : Int32), σ5))))
  else
  (some ((-1 : Int32), σ5))
set_option maxHeartbeats 4000000 in
set_option maxRecDepth 100000 in
theorem eX9_ofBlock {X : CX} {out : Int32 × Mem} (hE : Ends X SM (some (.int out.1)) out.2) (σ : Mem) (a1 : Int32) (a2 : Int32) (h : FX9_ofBlock σ a1 a2 = some out) : J X SM mX9_ofBlock σ 0 [(0, .ref (xad X 0)), (1, .int a1), (2, .int a2)] [] := by
  refine r_aload_n 0 dX9_ofBlock_0 rfl rfl rfl ?_
  refine r_iload_n 1 dX9_ofBlock_1 rfl rfl rfl ?_
  obtain ⟨r6, σ5, hc, h⟩ := bi_of h
  refine r_callV [.int a1] [] [.int r6]  (coX9_noBlock σ a1 r6 σ5 hc) mv_RX9_202 (by decide) rfl rfl rfl rfl rfl (Nat.le_of_ble_eq_true rfl) rfl dX9_ofBlock_2 rfl ?_
  refine r_if_eq dX9_ofBlock_5 rfl rfl h (fun c h => ?_) (fun c h => ?_)
  · refine r_iload_n 2 dX9_ofBlock_10 rfl rfl rfl ?_
    refine r_if_ne dX9_ofBlock_11 rfl rfl h (fun c h => ?_) (fun c h => ?_)
    · refine r_iload_n 2 dX9_ofBlock_23 rfl rfl rfl ?_
      refine r_iconst dX9_ofBlock_24 rfl ki_1 ?_
      refine r_icmp_ne dX9_ofBlock_25 rfl rfl h (fun c h => ?_) (fun c h => ?_)
      · refine r_bipush dX9_ofBlock_37 rfl kb_m2 ?_
        exact r_iret rfl dX9_ofBlock_39 h hE
      · refine r_aload_n 0 dX9_ofBlock_28 rfl rfl rfl ?_
        refine r_getR fg_RX9_19 rfl rfl dX9_ofBlock_29 rfl ?_
        refine r_iload_n 1 dX9_ofBlock_32 rfl rfl rfl ?_
        refine r_iald rfl dX9_ofBlock_33 rfl h (fun j7 h => ?_)
        refine r_goto dX9_ofBlock_34 rfl ?_
        exact r_iret rfl dX9_ofBlock_39 h hE
    · refine r_aload_n 0 dX9_ofBlock_14 rfl rfl rfl ?_
      refine r_getR fg_RX9_13 rfl rfl dX9_ofBlock_15 rfl ?_
      refine r_iload_n 1 dX9_ofBlock_18 rfl rfl rfl ?_
      refine r_iald rfl dX9_ofBlock_19 rfl h (fun j8 h => ?_)
      refine r_goto dX9_ofBlock_20 rfl ?_
      exact r_iret rfl dX9_ofBlock_39 h hE
  · refine r_iconst dX9_ofBlock_8 rfl ki_m1 ?_
    exact r_iret rfl dX9_ofBlock_9 h hE
theorem coX9_ofBlock (σ : Mem) (a1 : Int32) (a2 : Int32) (r : Int32) (σ2 : Mem) (h : FX9_ofBlock σ a1 a2 = some (r, σ2)) : Con SM 3 yX9_ofBlock cX9_ofBlock 3 (some .int) (fun ad => [.ref (ad 0), .int a1, .int a2]) σ (fun _ => some (.int r)) σ2 :=
  con_of (by decide +kernel) (fun _ => Nat.le_of_ble_eq_true rfl) (fun X hE => eX9_ofBlock (out := (r, σ2)) hE σ a1 a2 h)
-- IceYardModel pushBarred
abbrev mX9_pushBarred : MD := (cX9_pushBarred, RX9, 4, (some .int), 5)
noncomputable def FX9_pushBarred (σ : Mem) (a1 : Int32) (a2 : Int32) : Option (Int32 × Mem) :=
  bi (FX9_noBlock σ a1) fun r9 σ8 =>
  if r9 = 0 then
  (bi (FX9_in σ8 ((a2).toInt64) (0 : Int64) (3 : Int64)) fun r11 σ10 =>
  if r11 = 0 then
  (some ((-2 : Int32), σ10))
  else
  (bv (FX9_hold σ10 (0 : Int32)) fun σ12 =>
  bi (FX9_goes σ12 a1 a2) fun r14 σ13 =>
  if r14 = 0 then
  (some ((-3 : Int32), σ13))
  else
  (some ((0 : Int32), σ13))))
  else
  (some ((-1 : Int32), σ8))
set_option maxHeartbeats 4000000 in
set_option maxRecDepth 100000 in
theorem eX9_pushBarred {X : CX} {out : Int32 × Mem} (hE : Ends X SM (some (.int out.1)) out.2) (σ : Mem) (a1 : Int32) (a2 : Int32) (h : FX9_pushBarred σ a1 a2 = some out) : J X SM mX9_pushBarred σ 0 [(0, .ref (xad X 0)), (1, .int a1), (2, .int a2)] [] := by
  refine r_aload_n 0 dX9_pushBarred_0 rfl rfl rfl ?_
  refine r_iload_n 1 dX9_pushBarred_1 rfl rfl rfl ?_
  obtain ⟨r9, σ8, hc, h⟩ := bi_of h
  refine r_callV [.int a1] [] [.int r9]  (coX9_noBlock σ a1 r9 σ8 hc) mv_RX9_202 (by decide) rfl rfl rfl rfl rfl (Nat.le_of_ble_eq_true rfl) rfl dX9_pushBarred_2 rfl ?_
  refine r_if_eq dX9_pushBarred_5 rfl rfl h (fun c h => ?_) (fun c h => ?_)
  · refine r_iload_n 2 dX9_pushBarred_10 rfl rfl rfl ?_
    refine r_i2l dX9_pushBarred_11 rfl ?_
    refine r_lconst dX9_pushBarred_12 rfl kl_0 ?_
    refine r_ldc2 dX9_pushBarred_13 rfl cl_RX9_138 ?_
    obtain ⟨r11, σ10, hc, h⟩ := bi_of h
    refine r_callS [] [.int r11]  (coX9_in σ8 ((a2).toInt64) (0 : Int64) (3 : Int64) r11 σ10 hc) ms_RX9_142 (by decide) rfl rfl (Nat.le_of_ble_eq_true rfl) rfl dX9_pushBarred_16 rfl ?_
    refine r_if_ne dX9_pushBarred_19 rfl rfl h (fun c h => ?_) (fun c h => ?_)
    · refine r_aload_n 0 dX9_pushBarred_25 rfl rfl rfl ?_
      refine r_iconst dX9_pushBarred_26 rfl ki_0 ?_
      obtain ⟨σ12, hc, h⟩ := bv_of h
      refine r_callV [.int (0 : Int32)] [] []  (coX9_hold σ10 (0 : Int32) σ12 hc) mv_RX9_217 (by decide) rfl rfl rfl rfl rfl (Nat.le_of_ble_eq_true rfl) rfl dX9_pushBarred_27 rfl ?_
      refine r_aload_n 0 dX9_pushBarred_30 rfl rfl rfl ?_
      refine r_iload_n 1 dX9_pushBarred_31 rfl rfl rfl ?_
      refine r_iload_n 2 dX9_pushBarred_32 rfl rfl rfl ?_
      obtain ⟨r14, σ13, hc, h⟩ := bi_of h
      refine r_callV [.int a1, .int a2] [] [.int r14]  (coX9_goes σ12 a1 a2 r14 σ13 hc) mv_RX9_221 (by decide) rfl rfl rfl rfl rfl (Nat.le_of_ble_eq_true rfl) rfl dX9_pushBarred_33 rfl ?_
      refine r_istoreV_n [(3, .int r14), (0, .ref (xad X 0)), (1, .int a1), (2, .int a2)] dX9_pushBarred_36 rfl rfl (show 3 < 4 by decide) rfl ?_
      refine r_iload_n 0 dX9_pushBarred_37 rfl rfl rfl ?_
      refine r_if_eq dX9_pushBarred_38 rfl rfl h (fun c h => ?_) (fun c h => ?_)
      · refine r_bipush dX9_pushBarred_45 rfl kb_m3 ?_
        exact r_iret rfl dX9_pushBarred_47 h hE
      · refine r_iconst dX9_pushBarred_41 rfl ki_0 ?_
        refine r_goto dX9_pushBarred_42 rfl ?_
        exact r_iret rfl dX9_pushBarred_47 h hE
    · refine r_bipush dX9_pushBarred_22 rfl kb_m2 ?_
      exact r_iret rfl dX9_pushBarred_24 h hE
  · refine r_iconst dX9_pushBarred_8 rfl ki_m1 ?_
    exact r_iret rfl dX9_pushBarred_9 h hE
theorem coX9_pushBarred (σ : Mem) (a1 : Int32) (a2 : Int32) (r : Int32) (σ2 : Mem) (h : FX9_pushBarred σ a1 a2 = some (r, σ2)) : Con SM 5 yX9_pushBarred cX9_pushBarred 4 (some .int) (fun ad => [.ref (ad 0), .int a1, .int a2]) σ (fun _ => some (.int r)) σ2 :=
  con_of (by decide +kernel) (fun _ => Nat.le_of_ble_eq_true rfl) (fun X hE => eX9_pushBarred (out := (r, σ2)) hE σ a1 a2 h)
-- IceYardModel push
abbrev mX9_push : MD := (cX9_push, RX9, 5, (some .int), 6)
noncomputable def BX9_push_34 (rl34 : Mem → Int32 → Int32 → Option (Int32 × Mem)) (σ : Mem) (x1 : Int32) (x4 : Int32) : Option (Int32 × Mem) :=
  if (6 : Int32) ≤ x4 then
  (rd (0 : Int32) 5 fun j11 =>
  stL σ 11 200 (σ.1 0 22) (σ.2 9 j11) fun σ12 =>
  nm (setI σ12 0 22 ((σ12.1 0 22) + (1 : Int32))) fun σ13 =>
  rd x1 6 fun j14 =>
  some ((σ13.1 4 j14), σ13))
  else
  (rd x4 30 fun j15 =>
  stI σ 10 1200 (((6 : Int32) * (σ.1 0 22)) + x4) (σ.1 8 j15) fun σ16 =>
  nm (x4 + (1 : Int32)) fun x_17 =>
  rl34 σ16 x1 x_17)
set_option maxHeartbeats 4000000 in
set_option maxRecDepth 100000 in
theorem jX9_push_34 {X : CX} {out : Int32 × Mem} (hE : Ends X SM (some (.int out.1)) out.2) (rl34 : Mem → Int32 → Int32 → Option (Int32 × Mem)) (hr34 : ∀ (σ : Mem) (x1 : Int32) (x4 : Int32), rl34 σ x1 x4 = some out → J X SM mX9_push σ 34 [(0, .ref (xad X 0)), (1, .int x1), (4, .int x4)] []) (σ : Mem) (x1 : Int32) (x4 : Int32) (h : BX9_push_34 rl34 σ x1 x4 = some out) : J X SM mX9_push σ 34 [(0, .ref (xad X 0)), (1, .int x1), (4, .int x4)] [] := by
  refine r_iload 2 dX9_push_34 rfl rfl ?_
  refine r_bipush dX9_push_36 rfl kb_6 ?_
  refine r_icmp_ge dX9_push_38 rfl rfl h (fun c h => ?_) (fun c h => ?_)
  · refine r_aload_n 0 dX9_push_69 rfl rfl rfl ?_
    refine r_getR fg_RX9_41 rfl rfl dX9_push_70 rfl ?_
    refine r_aload_n 0 dX9_push_73 rfl rfl rfl ?_
    refine r_getI fg_RX9_193 rfl rfl dX9_push_74 rfl ?_
    refine r_aload_n 0 dX9_push_77 rfl rfl rfl ?_
    refine r_getR fg_RX9_34 rfl rfl dX9_push_78 rfl ?_
    refine r_iconst dX9_push_81 rfl ki_0 ?_
    refine r_lald rfl dX9_push_82 rfl h (fun j11 h => ?_)
    refine r_last rfl dX9_push_83 rfl h (fun σ12 h => ?_)
    refine r_aload_n 0 dX9_push_84 rfl rfl rfl ?_
    refine r_dup dX9_push_85 rfl rfl ?_
    refine r_getI fg_RX9_193 rfl rfl dX9_push_86 rfl ?_
    refine r_iconst dX9_push_89 rfl ki_1 ?_
    refine r_iadd dX9_push_90 rfl ?_
    refine r_putI fp_RX9_193 rfl rfl dX9_push_91 rfl h (fun σ13 h => ?_)
    refine r_aload_n 0 dX9_push_94 rfl rfl rfl ?_
    refine r_getR fg_RX9_19 rfl rfl dX9_push_95 rfl ?_
    refine r_iload_n 1 dX9_push_98 rfl rfl rfl ?_
    refine r_iald rfl dX9_push_99 rfl h (fun j14 h => ?_)
    exact r_iret rfl dX9_push_100 h hE
  · refine r_aload_n 0 dX9_push_41 rfl rfl rfl ?_
    refine r_getR fg_RX9_38 rfl rfl dX9_push_42 rfl ?_
    refine r_bipush dX9_push_45 rfl kb_6 ?_
    refine r_aload_n 0 dX9_push_47 rfl rfl rfl ?_
    refine r_getI fg_RX9_193 rfl rfl dX9_push_48 rfl ?_
    refine r_imul dX9_push_51 rfl ?_
    refine r_iload 2 dX9_push_52 rfl rfl ?_
    refine r_iadd dX9_push_54 rfl ?_
    refine r_aload_n 0 dX9_push_55 rfl rfl rfl ?_
    refine r_getR fg_RX9_31 rfl rfl dX9_push_56 rfl ?_
    refine r_iload 2 dX9_push_59 rfl rfl ?_
    refine r_iald rfl dX9_push_61 rfl h (fun j15 h => ?_)
    refine r_iast rfl dX9_push_62 rfl h (fun σ16 h => ?_)
    refine r_iinc 2 (fun x_17 => [(4, .int x_17), (0, .ref (xad X 0)), (1, .int x1)]) dX9_push_63 rfl rfl ki_1 (show 4 < 5 by decide) (fun _ => rfl) h (fun x_17 h => ?_)
    refine r_goto dX9_push_66 rfl ?_
    refine r_sub [1, 2, 0] rfl ?_
    exact hr34 σ16 x1 x_17 h
noncomputable def FX9_push_34 (n : Nat) : Mem → Int32 → Int32 → Option (Int32 × Mem) :=
  Nat.rec (fun _ _ _ => none) (fun _ ih => BX9_push_34 ih) n
theorem lX9_push_34 {X : CX} {out : Int32 × Mem} (hE : Ends X SM (some (.int out.1)) out.2) : ∀ (n : Nat) (σ : Mem) (x1 : Int32) (x4 : Int32), FX9_push_34 n σ x1 x4 = some out → J X SM mX9_push σ 34 [(0, .ref (xad X 0)), (1, .int x1), (4, .int x4)] [] := by
  intro n
  induction n with
  | zero => intro σ x1 x4 h; exact nn h
  | succ n ih => intro σ x1 x4 h; exact jX9_push_34 hE (FX9_push_34 n) ih σ x1 x4 h
noncomputable def FX9_push (σ : Mem) (a1 : Int32) (a2 : Int32) : Option (Int32 × Mem) :=
  bi (FX9_pushBarred σ a1 a2) fun r19 σ18 =>
  if 0 ≤ r19 then
  (if (σ18.1 0 22) = (200 : Int32) then
  (bv (FX9_give σ18 (0 : Int32)) fun σ20 =>
  some ((-4 : Int32), σ20))
  else
  (FX9_push_34 FU σ18 a1 (0 : Int32)))
  else
  (some (r19, σ18))
set_option maxHeartbeats 4000000 in
set_option maxRecDepth 100000 in
theorem eX9_push {X : CX} {out : Int32 × Mem} (hE : Ends X SM (some (.int out.1)) out.2) (σ : Mem) (a1 : Int32) (a2 : Int32) (h : FX9_push σ a1 a2 = some out) : J X SM mX9_push σ 0 [(0, .ref (xad X 0)), (1, .int a1), (2, .int a2)] [] := by
  refine r_aload_n 0 dX9_push_0 rfl rfl rfl ?_
  refine r_iload_n 1 dX9_push_1 rfl rfl rfl ?_
  refine r_iload_n 2 dX9_push_2 rfl rfl rfl ?_
  obtain ⟨r19, σ18, hc, h⟩ := bi_of h
  refine r_callV [.int a1, .int a2] [] [.int r19]  (coX9_pushBarred σ a1 a2 r19 σ18 hc) mv_RX9_224 (by decide) rfl rfl rfl rfl rfl (Nat.le_of_ble_eq_true rfl) rfl dX9_push_3 rfl ?_
  refine r_istoreV_n [(3, .int r19), (0, .ref (xad X 0)), (1, .int a1), (2, .int a2)] dX9_push_6 rfl rfl (show 3 < 5 by decide) rfl ?_
  refine r_iload_n 0 dX9_push_7 rfl rfl rfl ?_
  refine r_if_ge dX9_push_8 rfl rfl h (fun c h => ?_) (fun c h => ?_)
  · refine r_aload_n 1 dX9_push_13 rfl rfl rfl ?_
    refine r_getI fg_RX9_193 rfl rfl dX9_push_14 rfl ?_
    refine r_sipush dX9_push_17 rfl ks_200 ?_
    refine r_icmp_ne dX9_push_20 rfl rfl h (fun c h => ?_) (fun c h => ?_)
    · refine r_iconst dX9_push_31 rfl ki_0 ?_
      refine r_istoreV [(4, .int (0 : Int32)), (3, .int r19), (0, .ref (xad X 0)), (1, .int a1), (2, .int a2)] dX9_push_32 rfl (show 4 < 5 by decide) rfl ?_
      refine r_sub [2, 3, 0] rfl ?_
      exact lX9_push_34 hE FU σ18 a1 (0 : Int32) h
    · refine r_aload_n 1 dX9_push_23 rfl rfl rfl ?_
      refine r_iconst dX9_push_24 rfl ki_0 ?_
      obtain ⟨σ20, hc, h⟩ := bv_of h
      refine r_callV [.int (0 : Int32)] [] []  (coX9_give σ18 (0 : Int32) σ20 hc) mv_RX9_227 (by decide) rfl rfl rfl rfl rfl (Nat.le_of_ble_eq_true rfl) rfl dX9_push_25 rfl ?_
      refine r_bipush dX9_push_28 rfl kb_m4 ?_
      exact r_iret rfl dX9_push_30 h hE
  · refine r_iload_n 0 dX9_push_11 rfl rfl rfl ?_
    exact r_iret rfl dX9_push_12 h hE
theorem coX9_push (σ : Mem) (a1 : Int32) (a2 : Int32) (r : Int32) (σ2 : Mem) (h : FX9_push σ a1 a2 = some (r, σ2)) : Con SM 6 yX9_push cX9_push 5 (some .int) (fun ad => [.ref (ad 0), .int a1, .int a2]) σ (fun _ => some (.int r)) σ2 :=
  con_of (by decide +kernel) (fun _ => Nat.le_of_ble_eq_true rfl) (fun X hE => eX9_push (out := (r, σ2)) hE σ a1 a2 h)
-- IceYardModel put
abbrev mX9_put : MD := (cX9_put, RX9, 4, (some .int), 3)
noncomputable def FX9_put (σ : Mem) (a1 : Int32) (a2 : Int32) (a3 : Int32) : Option (Int32 × Mem) :=
  bi (FX9_noSheet σ a1) fun r23 σ22 =>
  if r23 = 0 then
  (bi (FX9_noCell σ22 a1 a2) fun r25 σ24 =>
  if r25 ≤ 0 then
  (rd a1 4 fun j26 =>
  if (σ24.1 29 j26) = 0 then
  (stI σ24 30 240 (((60 : Int32) * a1) + a2) ((a3).toInt8.toInt32) fun σ34 =>
  bi (FX9_refused σ34 (1 : Int32)) fun r36 σ35 =>
  some (r36, σ35))
  else
  (rd a1 4 fun j27 =>
  if (σ24.1 29 j27) = (1 : Int32) then
  (stI σ24 30 240 (((60 : Int32) * a1) + a2) ((a3).toInt16.toInt32) fun σ31 =>
  bi (FX9_refused σ31 (1 : Int32)) fun r33 σ32 =>
  some (r33, σ32))
  else
  (stI σ24 30 240 (((60 : Int32) * a1) + a2) a3 fun σ28 =>
  bi (FX9_refused σ28 (1 : Int32)) fun r30 σ29 =>
  some (r30, σ29))))
  else
  (bi (FX9_noCell σ24 a1 a2) fun r38 σ37 =>
  bi (FX9_failed σ37 r38) fun r40 σ39 =>
  some (r40, σ39)))
  else
  (bi (FX9_refused σ22 (-1 : Int32)) fun r42 σ41 =>
  some (r42, σ41))
set_option maxHeartbeats 4000000 in
set_option maxRecDepth 100000 in
theorem eX9_put {X : CX} {out : Int32 × Mem} (hE : Ends X SM (some (.int out.1)) out.2) (σ : Mem) (a1 : Int32) (a2 : Int32) (a3 : Int32) (h : FX9_put σ a1 a2 a3 = some out) : J X SM mX9_put σ 0 [(0, .ref (xad X 0)), (1, .int a1), (2, .int a2), (3, .int a3)] [] := by
  refine r_iload_n 1 dX9_put_0 rfl rfl rfl ?_
  obtain ⟨r23, σ22, hc, h⟩ := bi_of h
  refine r_callS [] [.int r23]  (coX9_noSheet σ a1 r23 σ22 hc) ms_RX9_159 (by decide) rfl rfl (Nat.le_of_ble_eq_true rfl) rfl dX9_put_1 rfl ?_
  refine r_if_eq dX9_put_4 rfl rfl h (fun c h => ?_) (fun c h => ?_)
  · refine r_aload_n 0 dX9_put_13 rfl rfl rfl ?_
    refine r_iload_n 1 dX9_put_14 rfl rfl rfl ?_
    refine r_iload_n 2 dX9_put_15 rfl rfl rfl ?_
    obtain ⟨r25, σ24, hc, h⟩ := bi_of h
    refine r_callV [.int a1, .int a2] [] [.int r25]  (coX9_noCell σ22 a1 a2 r25 σ24 hc) mv_RX9_310 (by decide) rfl rfl rfl rfl rfl (Nat.le_of_ble_eq_true rfl) rfl dX9_put_16 rfl ?_
    refine r_if_le dX9_put_19 rfl rfl h (fun c h => ?_) (fun c h => ?_)
    · refine r_aload_n 0 dX9_put_33 rfl rfl rfl ?_
      refine r_getR fg_RX9_99 rfl rfl dX9_put_34 rfl ?_
      refine r_bipush dX9_put_37 rfl kb_60 ?_
      refine r_iload_n 1 dX9_put_39 rfl rfl rfl ?_
      refine r_imul dX9_put_40 rfl ?_
      refine r_iload_n 2 dX9_put_41 rfl rfl rfl ?_
      refine r_iadd dX9_put_42 rfl ?_
      refine r_aload_n 0 dX9_put_43 rfl rfl rfl ?_
      refine r_getR fg_RX9_96 rfl rfl dX9_put_44 rfl ?_
      refine r_iload_n 1 dX9_put_47 rfl rfl rfl ?_
      refine r_iald rfl dX9_put_48 rfl h (fun j26 h => ?_)
      refine r_if_ne dX9_put_49 rfl rfl h (fun c h => ?_) (fun c h => ?_)
      · refine r_aload_n 0 dX9_put_57 rfl rfl rfl ?_
        refine r_getR fg_RX9_96 rfl rfl dX9_put_58 rfl ?_
        refine r_iload_n 1 dX9_put_61 rfl rfl rfl ?_
        refine r_iald rfl dX9_put_62 rfl h (fun j27 h => ?_)
        refine r_iconst dX9_put_63 rfl ki_1 ?_
        refine r_icmp_ne dX9_put_64 rfl rfl h (fun c h => ?_) (fun c h => ?_)
        · refine r_iload_n 3 dX9_put_72 rfl rfl rfl ?_
          refine r_iast rfl dX9_put_73 rfl h (fun σ28 h => ?_)
          refine r_aload_n 0 dX9_put_74 rfl rfl rfl ?_
          refine r_iconst dX9_put_75 rfl ki_1 ?_
          obtain ⟨r30, σ29, hc, h⟩ := bi_of h
          refine r_callV [.int (1 : Int32)] [] [.int r30]  (coX9_refused σ28 (1 : Int32) r30 σ29 hc) mv_RX9_163 (by decide) rfl rfl rfl rfl rfl (Nat.le_of_ble_eq_true rfl) rfl dX9_put_76 rfl ?_
          exact r_iret rfl dX9_put_79 h hE
        · refine r_iload_n 3 dX9_put_67 rfl rfl rfl ?_
          refine r_i2s dX9_put_68 rfl ?_
          refine r_goto dX9_put_69 rfl ?_
          refine r_iast rfl dX9_put_73 rfl h (fun σ31 h => ?_)
          refine r_aload_n 0 dX9_put_74 rfl rfl rfl ?_
          refine r_iconst dX9_put_75 rfl ki_1 ?_
          obtain ⟨r33, σ32, hc, h⟩ := bi_of h
          refine r_callV [.int (1 : Int32)] [] [.int r33]  (coX9_refused σ31 (1 : Int32) r33 σ32 hc) mv_RX9_163 (by decide) rfl rfl rfl rfl rfl (Nat.le_of_ble_eq_true rfl) rfl dX9_put_76 rfl ?_
          exact r_iret rfl dX9_put_79 h hE
      · refine r_iload_n 3 dX9_put_52 rfl rfl rfl ?_
        refine r_i2b dX9_put_53 rfl ?_
        refine r_goto dX9_put_54 rfl ?_
        refine r_iast rfl dX9_put_73 rfl h (fun σ34 h => ?_)
        refine r_aload_n 0 dX9_put_74 rfl rfl rfl ?_
        refine r_iconst dX9_put_75 rfl ki_1 ?_
        obtain ⟨r36, σ35, hc, h⟩ := bi_of h
        refine r_callV [.int (1 : Int32)] [] [.int r36]  (coX9_refused σ34 (1 : Int32) r36 σ35 hc) mv_RX9_163 (by decide) rfl rfl rfl rfl rfl (Nat.le_of_ble_eq_true rfl) rfl dX9_put_76 rfl ?_
        exact r_iret rfl dX9_put_79 h hE
    · refine r_aload_n 0 dX9_put_22 rfl rfl rfl ?_
      refine r_aload_n 0 dX9_put_23 rfl rfl rfl ?_
      refine r_iload_n 1 dX9_put_24 rfl rfl rfl ?_
      refine r_iload_n 2 dX9_put_25 rfl rfl rfl ?_
      obtain ⟨r38, σ37, hc, h⟩ := bi_of h
      refine r_callV [.int a1, .int a2] [.ref (xad X 0)] [.int r38, .ref (xad X 0)]  (coX9_noCell σ24 a1 a2 r38 σ37 hc) mv_RX9_310 (by decide) rfl rfl rfl rfl rfl (Nat.le_of_ble_eq_true rfl) rfl dX9_put_26 rfl ?_
      obtain ⟨r40, σ39, hc, h⟩ := bi_of h
      refine r_callV [.int r38] [] [.int r40]  (coX9_failed σ37 r38 r40 σ39 hc) mv_RX9_168 (by decide) rfl rfl rfl rfl rfl (Nat.le_of_ble_eq_true rfl) rfl dX9_put_29 rfl ?_
      exact r_iret rfl dX9_put_32 h hE
  · refine r_aload_n 0 dX9_put_7 rfl rfl rfl ?_
    refine r_iconst dX9_put_8 rfl ki_m1 ?_
    obtain ⟨r42, σ41, hc, h⟩ := bi_of h
    refine r_callV [.int (-1 : Int32)] [] [.int r42]  (coX9_refused σ22 (-1 : Int32) r42 σ41 hc) mv_RX9_163 (by decide) rfl rfl rfl rfl rfl (Nat.le_of_ble_eq_true rfl) rfl dX9_put_9 rfl ?_
    exact r_iret rfl dX9_put_12 h hE
theorem coX9_put (σ : Mem) (a1 : Int32) (a2 : Int32) (a3 : Int32) (r : Int32) (σ2 : Mem) (h : FX9_put σ a1 a2 a3 = some (r, σ2)) : Con SM 3 yX9_put cX9_put 4 (some .int) (fun ad => [.ref (ad 0), .int a1, .int a2, .int a3]) σ (fun _ => some (.int r)) σ2 :=
  con_of (by decide +kernel) (fun _ => Nat.le_of_ble_eq_true rfl) (fun X hE => eX9_put (out := (r, σ2)) hE σ a1 a2 a3 h)
-- IceYardModel readsSign
abbrev mX9_readsSign : MD := (cX9_readsSign, RX9, 7, (some .boolean), 2)
noncomputable def FX9_readsSign_163 (σ : Mem) : Option (Int32 × Mem) :=
  nm (setI σ 0 9 ((σ.1 0 9) + (1 : Int32))) fun σ11 =>
  rz (1 : Int32) σ11
set_option maxHeartbeats 4000000 in
set_option maxRecDepth 100000 in
theorem jX9_readsSign_163 {X : CX} {out : Int32 × Mem} (hE : Ends X SM (some (.int out.1)) out.2) (σ : Mem) (h : FX9_readsSign_163 σ = some out) : J X SM mX9_readsSign σ 163 [(0, .ref (xad X 0))] [] := by
  refine r_aload_n 0 dX9_readsSign_163 rfl rfl rfl ?_
  refine r_dup dX9_readsSign_164 rfl rfl ?_
  refine r_getI fg_RX9_121 rfl rfl dX9_readsSign_165 rfl ?_
  refine r_iconst dX9_readsSign_168 rfl ki_1 ?_
  refine r_iadd dX9_readsSign_169 rfl ?_
  refine r_putI fp_RX9_121 rfl rfl dX9_readsSign_170 rfl h (fun σ11 h => ?_)
  refine r_iconst dX9_readsSign_173 rfl ki_1 ?_
  exact r_zret rfl dX9_readsSign_174 h hE
noncomputable def FX9_readsSign_142 (σ : Mem) (x3 : Int32) (s0 : Int32) (s1 : Int32) : Option (Int32 × Mem) :=
  stI σ 6 6 s1 s0 fun σ12 =>
  stI σ12 7 6 (σ12.1 0 10) x3 fun σ13 =>
  nm (setI σ13 0 10 ((σ13.1 0 10) + (1 : Int32))) fun σ14 =>
  FX9_readsSign_163 σ14
set_option maxHeartbeats 4000000 in
set_option maxRecDepth 100000 in
theorem jX9_readsSign_142 {X : CX} {out : Int32 × Mem} (hE : Ends X SM (some (.int out.1)) out.2) (σ : Mem) (x3 : Int32) (s0 : Int32) (s1 : Int32) (h : FX9_readsSign_142 σ x3 s0 s1 = some out) : J X SM mX9_readsSign σ 142 [(0, .ref (xad X 0)), (3, .int x3)] [.int s0, .int s1, .ref (xad X 6)] := by
  refine r_iast rfl dX9_readsSign_142 rfl h (fun σ12 h => ?_)
  refine r_aload_n 0 dX9_readsSign_143 rfl rfl rfl ?_
  refine r_getR fg_RX9_28 rfl rfl dX9_readsSign_144 rfl ?_
  refine r_aload_n 0 dX9_readsSign_147 rfl rfl rfl ?_
  refine r_getI fg_RX9_135 rfl rfl dX9_readsSign_148 rfl ?_
  refine r_iload_n 1 dX9_readsSign_151 rfl rfl rfl ?_
  refine r_iast rfl dX9_readsSign_152 rfl h (fun σ13 h => ?_)
  refine r_aload_n 0 dX9_readsSign_153 rfl rfl rfl ?_
  refine r_dup dX9_readsSign_154 rfl rfl ?_
  refine r_getI fg_RX9_135 rfl rfl dX9_readsSign_155 rfl ?_
  refine r_iconst dX9_readsSign_158 rfl ki_1 ?_
  refine r_iadd dX9_readsSign_159 rfl ?_
  refine r_putI fp_RX9_135 rfl rfl dX9_readsSign_160 rfl h (fun σ14 h => ?_)
  refine r_sub [0] rfl ?_
  exact jX9_readsSign_163 hE σ14 h
noncomputable def FX9_readsSign_102 (σ : Mem) (x3 : Int32) (x4 : Int32) (x6 : Int32) (s0 : Int32) (s1 : Int32) : Option (Int32 × Mem) :=
  nm (setI σ 0 11 (s1 + s0)) fun σ15 =>
  if x6 = 0 then
  (FX9_readsSign_163 σ15)
  else
  (if x4 = (111 : Int32) then
  (FX9_readsSign_142 σ15 x3 (0 : Int32) (σ15.1 0 10))
  else
  (if x4 = (108 : Int32) then
  (FX9_readsSign_142 σ15 x3 (1 : Int32) (σ15.1 0 10))
  else
  (FX9_readsSign_142 σ15 x3 (2 : Int32) (σ15.1 0 10))))
set_option maxHeartbeats 4000000 in
set_option maxRecDepth 100000 in
theorem jX9_readsSign_102 {X : CX} {out : Int32 × Mem} (hE : Ends X SM (some (.int out.1)) out.2) (σ : Mem) (x3 : Int32) (x4 : Int32) (x6 : Int32) (s0 : Int32) (s1 : Int32) (h : FX9_readsSign_102 σ x3 x4 x6 s0 s1 = some out) : J X SM mX9_readsSign σ 102 [(0, .ref (xad X 0)), (3, .int x3), (4, .int x4), (6, .int x6)] [.int s0, .int s1, .ref (xad X 0)] := by
  refine r_iadd dX9_readsSign_102 rfl ?_
  refine r_putI fp_RX9_132 rfl rfl dX9_readsSign_103 rfl h (fun σ15 h => ?_)
  refine r_iload 3 dX9_readsSign_106 rfl rfl ?_
  refine r_if_eq dX9_readsSign_108 rfl rfl h (fun c h => ?_) (fun c h => ?_)
  · refine r_sub [0] rfl ?_
    exact jX9_readsSign_163 hE σ15 h
  · refine r_aload_n 0 dX9_readsSign_111 rfl rfl rfl ?_
    refine r_getR fg_RX9_25 rfl rfl dX9_readsSign_112 rfl ?_
    refine r_aload_n 0 dX9_readsSign_115 rfl rfl rfl ?_
    refine r_getI fg_RX9_135 rfl rfl dX9_readsSign_116 rfl ?_
    refine r_iload 2 dX9_readsSign_119 rfl rfl ?_
    refine r_bipush dX9_readsSign_121 rfl kb_111 ?_
    refine r_icmp_ne dX9_readsSign_123 rfl rfl h (fun c h => ?_) (fun c h => ?_)
    · refine r_iload 2 dX9_readsSign_130 rfl rfl ?_
      refine r_bipush dX9_readsSign_132 rfl kb_108 ?_
      refine r_icmp_ne dX9_readsSign_134 rfl rfl h (fun c h => ?_) (fun c h => ?_)
      · refine r_iconst dX9_readsSign_141 rfl ki_2 ?_
        refine r_sub [0, 1] rfl ?_
        exact jX9_readsSign_142 hE σ15 x3 (2 : Int32) (σ15.1 0 10) h
      · refine r_iconst dX9_readsSign_137 rfl ki_1 ?_
        refine r_goto dX9_readsSign_138 rfl ?_
        refine r_sub [0, 1] rfl ?_
        exact jX9_readsSign_142 hE σ15 x3 (1 : Int32) (σ15.1 0 10) h
    · refine r_iconst dX9_readsSign_126 rfl ki_0 ?_
      refine r_goto dX9_readsSign_127 rfl ?_
      refine r_sub [0, 1] rfl ?_
      exact jX9_readsSign_142 hE σ15 x3 (0 : Int32) (σ15.1 0 10) h
noncomputable def FX9_readsSign_78 (σ : Mem) (x3 : Int32) (x4 : Int32) (x5 : Int32) (x6 : Int32) : Option (Int32 × Mem) :=
  stI σ 5 36 x3 x5 fun σ16 =>
  if x5 = (3 : Int32) then
  (FX9_readsSign_102 σ16 x3 x4 x6 (1 : Int32) (σ16.1 0 11))
  else
  (FX9_readsSign_102 σ16 x3 x4 x6 (0 : Int32) (σ16.1 0 11))
set_option maxHeartbeats 4000000 in
set_option maxRecDepth 100000 in
theorem jX9_readsSign_78 {X : CX} {out : Int32 × Mem} (hE : Ends X SM (some (.int out.1)) out.2) (σ : Mem) (x3 : Int32) (x4 : Int32) (x5 : Int32) (x6 : Int32) (h : FX9_readsSign_78 σ x3 x4 x5 x6 = some out) : J X SM mX9_readsSign σ 78 [(0, .ref (xad X 0)), (3, .int x3), (4, .int x4), (5, .int x5), (6, .int x6)] [] := by
  refine r_aload_n 0 dX9_readsSign_78 rfl rfl rfl ?_
  refine r_getR fg_RX9_22 rfl rfl dX9_readsSign_79 rfl ?_
  refine r_iload_n 1 dX9_readsSign_82 rfl rfl rfl ?_
  refine r_iload 3 dX9_readsSign_83 rfl rfl ?_
  refine r_iast rfl dX9_readsSign_85 rfl h (fun σ16 h => ?_)
  refine r_aload_n 0 dX9_readsSign_86 rfl rfl rfl ?_
  refine r_dup dX9_readsSign_87 rfl rfl ?_
  refine r_getI fg_RX9_132 rfl rfl dX9_readsSign_88 rfl ?_
  refine r_iload 3 dX9_readsSign_91 rfl rfl ?_
  refine r_iconst dX9_readsSign_93 rfl ki_3 ?_
  refine r_icmp_ne dX9_readsSign_94 rfl rfl h (fun c h => ?_) (fun c h => ?_)
  · refine r_iconst dX9_readsSign_101 rfl ki_0 ?_
    refine r_sub [0, 1, 2, 4] rfl ?_
    exact jX9_readsSign_102 hE σ16 x3 x4 x6 (0 : Int32) (σ16.1 0 11) h
  · refine r_iconst dX9_readsSign_97 rfl ki_1 ?_
    refine r_goto dX9_readsSign_98 rfl ?_
    refine r_sub [0, 1, 2, 4] rfl ?_
    exact jX9_readsSign_102 hE σ16 x3 x4 x6 (1 : Int32) (σ16.1 0 11) h
noncomputable def FX9_readsSign_62 (σ : Mem) (x3 : Int32) (x4 : Int32) (x5 : Int32) (x6 : Int32) : Option (Int32 × Mem) :=
  if x6 = 0 then
  (FX9_readsSign_78 σ x3 x4 x5 x6)
  else
  (if (σ.1 0 10) = (6 : Int32) then
  (rz (0 : Int32) σ)
  else
  (FX9_readsSign_78 σ x3 x4 x5 x6))
set_option maxHeartbeats 4000000 in
set_option maxRecDepth 100000 in
theorem jX9_readsSign_62 {X : CX} {out : Int32 × Mem} (hE : Ends X SM (some (.int out.1)) out.2) (σ : Mem) (x3 : Int32) (x4 : Int32) (x5 : Int32) (x6 : Int32) (h : FX9_readsSign_62 σ x3 x4 x5 x6 = some out) : J X SM mX9_readsSign σ 62 [(0, .ref (xad X 0)), (3, .int x3), (4, .int x4), (5, .int x5), (6, .int x6)] [] := by
  refine r_iload 4 dX9_readsSign_62 rfl rfl ?_
  refine r_if_eq dX9_readsSign_64 rfl rfl h (fun c h => ?_) (fun c h => ?_)
  · exact jX9_readsSign_78 hE σ x3 x4 x5 x6 h
  · refine r_aload_n 0 dX9_readsSign_67 rfl rfl rfl ?_
    refine r_getI fg_RX9_135 rfl rfl dX9_readsSign_68 rfl ?_
    refine r_bipush dX9_readsSign_71 rfl kb_6 ?_
    refine r_icmp_ne dX9_readsSign_73 rfl rfl h (fun c h => ?_) (fun c h => ?_)
    · exact jX9_readsSign_78 hE σ x3 x4 x5 x6 h
    · refine r_iconst dX9_readsSign_76 rfl ki_0 ?_
      exact r_zret rfl dX9_readsSign_77 h hE
noncomputable def FX9_readsSign_41 (σ : Mem) (x3 : Int32) (x4 : Int32) (x5 : Int32) (s0 : Int32) : Option (Int32 × Mem) :=
  if x5 < 0 then
  (rz (0 : Int32) σ)
  else
  (if x5 = (3 : Int32) then
  (if (σ.1 0 11) = (4 : Int32) then
  (rz (0 : Int32) σ)
  else
  (FX9_readsSign_62 σ x3 x4 x5 s0))
  else
  (FX9_readsSign_62 σ x3 x4 x5 s0))
set_option maxHeartbeats 4000000 in
set_option maxRecDepth 100000 in
theorem jX9_readsSign_41 {X : CX} {out : Int32 × Mem} (hE : Ends X SM (some (.int out.1)) out.2) (σ : Mem) (x3 : Int32) (x4 : Int32) (x5 : Int32) (s0 : Int32) (h : FX9_readsSign_41 σ x3 x4 x5 s0 = some out) : J X SM mX9_readsSign σ 41 [(0, .ref (xad X 0)), (3, .int x3), (4, .int x4), (5, .int x5)] [.int s0] := by
  refine r_istoreV [(6, .int s0), (0, .ref (xad X 0)), (3, .int x3), (4, .int x4), (5, .int x5)] dX9_readsSign_41 rfl (show 6 < 7 by decide) rfl ?_
  refine r_iload 4 dX9_readsSign_43 rfl rfl ?_
  refine r_if_lt dX9_readsSign_45 rfl rfl h (fun c h => ?_) (fun c h => ?_)
  · refine r_iconst dX9_readsSign_76 rfl ki_0 ?_
    exact r_zret rfl dX9_readsSign_77 h hE
  · refine r_iload 4 dX9_readsSign_48 rfl rfl ?_
    refine r_iconst dX9_readsSign_50 rfl ki_3 ?_
    refine r_icmp_ne dX9_readsSign_51 rfl rfl h (fun c h => ?_) (fun c h => ?_)
    · refine r_sub [1, 2, 3, 4, 0] rfl ?_
      exact jX9_readsSign_62 hE σ x3 x4 x5 s0 h
    · refine r_aload_n 1 dX9_readsSign_54 rfl rfl rfl ?_
      refine r_getI fg_RX9_132 rfl rfl dX9_readsSign_55 rfl ?_
      refine r_iconst dX9_readsSign_58 rfl ki_4 ?_
      refine r_icmp_eq dX9_readsSign_59 rfl rfl h (fun c h => ?_) (fun c h => ?_)
      · refine r_iconst dX9_readsSign_76 rfl ki_0 ?_
        exact r_zret rfl dX9_readsSign_77 h hE
      · refine r_sub [1, 2, 3, 4, 0] rfl ?_
        exact jX9_readsSign_62 hE σ x3 x4 x5 s0 h
noncomputable def FX9_readsSign (σ : Mem) (a1 : Int32) (a2 : Int32) (a3 : Int32) : Option (Int32 × Mem) :=
  bi (FX9_codeAt σ a1 a2) fun r18 σ17 =>
  bi (FX9_groundOf σ17 r18) fun r20 σ19 =>
  if r18 = (111 : Int32) then
  (FX9_readsSign_41 σ19 a3 r18 r20 (1 : Int32))
  else
  (if r18 = (108 : Int32) then
  (FX9_readsSign_41 σ19 a3 r18 r20 (1 : Int32))
  else
  (if r18 = (100 : Int32) then
  (FX9_readsSign_41 σ19 a3 r18 r20 (1 : Int32))
  else
  (FX9_readsSign_41 σ19 a3 r18 r20 (0 : Int32))))
set_option maxHeartbeats 4000000 in
set_option maxRecDepth 100000 in
theorem eX9_readsSign {X : CX} {out : Int32 × Mem} (hE : Ends X SM (some (.int out.1)) out.2) (σ : Mem) (a1 : Int32) (a2 : Int32) (a3 : Int32) (h : FX9_readsSign σ a1 a2 a3 = some out) : J X SM mX9_readsSign σ 0 [(0, .ref (xad X 0)), (1, .int a1), (2, .int a2), (3, .int a3)] [] := by
  refine r_aload_n 0 dX9_readsSign_0 rfl rfl rfl ?_
  refine r_iload_n 1 dX9_readsSign_1 rfl rfl rfl ?_
  refine r_iload_n 2 dX9_readsSign_2 rfl rfl rfl ?_
  obtain ⟨r18, σ17, hc, h⟩ := bi_of h
  refine r_callV [.int a1, .int a2] [] [.int r18]  (coX9_codeAt σ a1 a2 r18 σ17 hc) mv_RX9_124 (by decide) rfl rfl rfl rfl rfl (Nat.le_of_ble_eq_true rfl) rfl dX9_readsSign_3 rfl ?_
  refine r_istoreV [(4, .int r18), (0, .ref (xad X 0)), (1, .int a1), (2, .int a2), (3, .int a3)] dX9_readsSign_6 rfl (show 4 < 7 by decide) rfl ?_
  refine r_iload 0 dX9_readsSign_8 rfl rfl ?_
  obtain ⟨r20, σ19, hc, h⟩ := bi_of h
  refine r_callS [] [.int r20]  (coX9_groundOf σ17 r18 r20 σ19 hc) ms_RX9_128 (by decide) rfl rfl (Nat.le_of_ble_eq_true rfl) rfl dX9_readsSign_10 rfl ?_
  refine r_istoreV [(5, .int r20), (4, .int r18), (0, .ref (xad X 0)), (1, .int a1), (2, .int a2), (3, .int a3)] dX9_readsSign_13 rfl (show 5 < 7 by decide) rfl ?_
  refine r_iload 1 dX9_readsSign_15 rfl rfl ?_
  refine r_bipush dX9_readsSign_17 rfl kb_111 ?_
  refine r_icmp_eq dX9_readsSign_19 rfl rfl h (fun c h => ?_) (fun c h => ?_)
  · refine r_iconst dX9_readsSign_36 rfl ki_1 ?_
    refine r_goto dX9_readsSign_37 rfl ?_
    refine r_sub [2, 5, 1, 0] rfl ?_
    exact jX9_readsSign_41 hE σ19 a3 r18 r20 (1 : Int32) h
  · refine r_iload 1 dX9_readsSign_22 rfl rfl ?_
    refine r_bipush dX9_readsSign_24 rfl kb_108 ?_
    refine r_icmp_eq dX9_readsSign_26 rfl rfl h (fun c h => ?_) (fun c h => ?_)
    · refine r_iconst dX9_readsSign_36 rfl ki_1 ?_
      refine r_goto dX9_readsSign_37 rfl ?_
      refine r_sub [2, 5, 1, 0] rfl ?_
      exact jX9_readsSign_41 hE σ19 a3 r18 r20 (1 : Int32) h
    · refine r_iload 1 dX9_readsSign_29 rfl rfl ?_
      refine r_bipush dX9_readsSign_31 rfl kb_100 ?_
      refine r_icmp_ne dX9_readsSign_33 rfl rfl h (fun c h => ?_) (fun c h => ?_)
      · refine r_iconst dX9_readsSign_40 rfl ki_0 ?_
        refine r_sub [2, 5, 1, 0] rfl ?_
        exact jX9_readsSign_41 hE σ19 a3 r18 r20 (0 : Int32) h
      · refine r_iconst dX9_readsSign_36 rfl ki_1 ?_
        refine r_goto dX9_readsSign_37 rfl ?_
        refine r_sub [2, 5, 1, 0] rfl ?_
        exact jX9_readsSign_41 hE σ19 a3 r18 r20 (1 : Int32) h
theorem coX9_readsSign (σ : Mem) (a1 : Int32) (a2 : Int32) (a3 : Int32) (r : Int32) (σ2 : Mem) (h : FX9_readsSign σ a1 a2 a3 = some (r, σ2)) : Con SM 2 yX9_readsSign cX9_readsSign 7 (some .boolean) (fun ad => [.ref (ad 0), .int a1, .int a2, .int a3]) σ (fun _ => some (.int r)) σ2 :=
  con_of (by decide +kernel) (fun _ => Nat.le_of_ble_eq_true rfl) (fun X hE => eX9_readsSign (out := (r, σ2)) hE σ a1 a2 a3 h)

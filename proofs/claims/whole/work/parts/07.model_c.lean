-- IceYardModel layYard
abbrev mX9_layYard : MD := (cX9_layYard, RX9, 9, none, 2)
noncomputable def BX9_layYard_100 (rl100 : Mem → Int64 → Int32 → Int32 → Option (Mem)) (σ : Mem) (x3 : Int64) (x7 : Int32) (x8 : Int32) : Option (Mem) :=
  bi (FX9_cells σ) fun r22 σ21 =>
  if r22 ≤ x8 then
  (some σ21)
  else
  (rd x8 36 fun j23 =>
  if (σ21.1 1 j23) = (3 : Int32) then
  (nm (setL σ21 0 8 ((σ21.2 0 8) ||| (((x3 >>> ((x7).toInt64 &&& 63)) &&& (1 : Int64)) <<< ((x8).toInt64 &&& 63)))) fun σ25 =>
  nm (x7 + (1 : Int32)) fun x_26 =>
  nm (x8 + (1 : Int32)) fun x_27 =>
  rl100 σ25 x3 x_26 x_27)
  else
  (nm (x8 + (1 : Int32)) fun x_24 =>
  rl100 σ21 x3 x7 x_24))
set_option maxHeartbeats 4000000 in
set_option maxRecDepth 100000 in
theorem jX9_layYard_100 {X : CX} {out : Mem} (hE : Ends X SM none out) (rl100 : Mem → Int64 → Int32 → Int32 → Option (Mem)) (hr100 : ∀ (σ : Mem) (x3 : Int64) (x7 : Int32) (x8 : Int32), rl100 σ x3 x7 x8 = some out → J X SM mX9_layYard σ 100 [(0, .ref (xad X 0)), (3, .long x3), (7, .int x7), (8, .int x8)] []) (σ : Mem) (x3 : Int64) (x7 : Int32) (x8 : Int32) (h : BX9_layYard_100 rl100 σ x3 x7 x8 = some out) : J X SM mX9_layYard σ 100 [(0, .ref (xad X 0)), (3, .long x3), (7, .int x7), (8, .int x8)] [] := by
  refine r_iload 3 dX9_layYard_100 rfl rfl ?_
  refine r_aload_n 0 dX9_layYard_102 rfl rfl rfl ?_
  obtain ⟨r22, σ21, hc, h⟩ := bi_of h
  refine r_callV [] [.int x8] [.int r22, .int x8]  (coX9_cells σ r22 σ21 hc) mv_RX9_182 (by decide) rfl rfl rfl rfl rfl (Nat.le_of_ble_eq_true rfl) rfl dX9_layYard_103 rfl ?_
  refine r_icmp_ge dX9_layYard_106 rfl rfl h (fun c h => ?_) (fun c h => ?_)
  · exact r_vret rfl dX9_layYard_147 h hE
  · refine r_aload_n 0 dX9_layYard_109 rfl rfl rfl ?_
    refine r_getR fg_RX9_7 rfl rfl dX9_layYard_110 rfl ?_
    refine r_iload 3 dX9_layYard_113 rfl rfl ?_
    refine r_iald rfl dX9_layYard_115 rfl h (fun j23 h => ?_)
    refine r_iconst dX9_layYard_116 rfl ki_3 ?_
    refine r_icmp_ne dX9_layYard_117 rfl rfl h (fun c h => ?_) (fun c h => ?_)
    · refine r_iinc 3 (fun x_24 => [(8, .int x_24), (0, .ref (xad X 0)), (3, .long x3), (7, .int x7)]) dX9_layYard_141 rfl rfl ki_1 (show 8 < 9 by decide) (fun _ => rfl) h (fun x_24 h => ?_)
      refine r_goto dX9_layYard_144 rfl ?_
      refine r_sub [1, 2, 3, 0] rfl ?_
      exact hr100 σ21 x3 x7 x_24 h
    · refine r_aload_n 0 dX9_layYard_120 rfl rfl rfl ?_
      refine r_dup dX9_layYard_121 rfl rfl ?_
      refine r_getL fg_RX9_186 rfl rfl dX9_layYard_122 rfl ?_
      refine r_lload_n 1 dX9_layYard_125 rfl rfl rfl ?_
      refine r_iload 2 dX9_layYard_126 rfl rfl ?_
      refine r_lshr dX9_layYard_128 rfl ?_
      refine r_lconst dX9_layYard_129 rfl kl_1 ?_
      refine r_land dX9_layYard_130 rfl ?_
      refine r_iload 3 dX9_layYard_131 rfl rfl ?_
      refine r_lshl dX9_layYard_133 rfl ?_
      refine r_lor dX9_layYard_134 rfl ?_
      refine r_putL fp_RX9_186 rfl rfl dX9_layYard_135 rfl h (fun σ25 h => ?_)
      refine r_iinc 2 (fun x_26 => [(7, .int x_26), (0, .ref (xad X 0)), (3, .long x3), (8, .int x8)]) dX9_layYard_138 rfl rfl ki_1 (show 7 < 9 by decide) (fun _ => rfl) h (fun x_26 h => ?_)
      refine r_iinc 3 (fun x_27 => [(8, .int x_27), (7, .int x_26), (0, .ref (xad X 0)), (3, .long x3)]) dX9_layYard_141 rfl rfl ki_1 (show 8 < 9 by decide) (fun _ => rfl) h (fun x_27 h => ?_)
      refine r_goto dX9_layYard_144 rfl ?_
      refine r_sub [2, 3, 1, 0] rfl ?_
      exact hr100 σ25 x3 x_26 x_27 h
noncomputable def FX9_layYard_100 (n : Nat) : Mem → Int64 → Int32 → Int32 → Option (Mem) :=
  Nat.rec (fun _ _ _ _ => none) (fun _ ih => BX9_layYard_100 ih) n
theorem lX9_layYard_100 {X : CX} {out : Mem} (hE : Ends X SM none out) : ∀ (n : Nat) (σ : Mem) (x3 : Int64) (x7 : Int32) (x8 : Int32), FX9_layYard_100 n σ x3 x7 x8 = some out → J X SM mX9_layYard σ 100 [(0, .ref (xad X 0)), (3, .long x3), (7, .int x7), (8, .int x8)] [] := by
  intro n
  induction n with
  | zero => intro σ x3 x7 x8 h; exact nn h
  | succ n ih => intro σ x3 x7 x8 h; exact jX9_layYard_100 hE (FX9_layYard_100 n) ih σ x3 x7 x8 h
noncomputable def BX9_layYard_16 (rl16 : Mem → Int64 → Int64 → Int32 → Option (Mem)) (σ : Mem) (x3 : Int64) (x5 : Int64) (x7 : Int32) : Option (Mem) :=
  if x7 < 0 then
  (nm (setL σ 0 8 (0 : Int64)) fun σ28 =>
  FX9_layYard_100 FU σ28 x3 (0 : Int32) (0 : Int32))
  else
  (dzL (64 : Int64) <|
  nm (((x5 - x5 / (64 : Int64) * (64 : Int64))).toInt32) fun x_29 =>
  dzL (64 : Int64) <|
  nm (x5 / (64 : Int64)) fun x_30 =>
  if (36 : Int32) ≤ x_29 then
  (if x_29 = (36 : Int32) then
  (stI σ 4 6 x7 (-6 : Int32) fun σ35 =>
  nm (x7 + (-1 : Int32)) fun x_36 =>
  rl16 σ35 x3 x_30 x_36)
  else
  (if x_29 = (37 : Int32) then
  (stI σ 4 6 x7 (-20 : Int32) fun σ33 =>
  nm (x7 + (-1 : Int32)) fun x_34 =>
  rl16 σ33 x3 x_30 x_34)
  else
  (stI σ 4 6 x7 (-21 : Int32) fun σ31 =>
  nm (x7 + (-1 : Int32)) fun x_32 =>
  rl16 σ31 x3 x_30 x_32)))
  else
  (stI σ 4 6 x7 x_29 fun σ37 =>
  nm (x7 + (-1 : Int32)) fun x_38 =>
  rl16 σ37 x3 x_30 x_38))
set_option maxHeartbeats 4000000 in
set_option maxRecDepth 100000 in
theorem jX9_layYard_16 {X : CX} {out : Mem} (hE : Ends X SM none out) (rl16 : Mem → Int64 → Int64 → Int32 → Option (Mem)) (hr16 : ∀ (σ : Mem) (x3 : Int64) (x5 : Int64) (x7 : Int32), rl16 σ x3 x5 x7 = some out → J X SM mX9_layYard σ 16 [(0, .ref (xad X 0)), (3, .long x3), (5, .long x5), (7, .int x7)] []) (σ : Mem) (x3 : Int64) (x5 : Int64) (x7 : Int32) (h : BX9_layYard_16 rl16 σ x3 x5 x7 = some out) : J X SM mX9_layYard σ 16 [(0, .ref (xad X 0)), (3, .long x3), (5, .long x5), (7, .int x7)] [] := by
  refine r_iload 3 dX9_layYard_16 rfl rfl ?_
  refine r_if_lt dX9_layYard_18 rfl rfl h (fun c h => ?_) (fun c h => ?_)
  · refine r_iconst dX9_layYard_89 rfl ki_0 ?_
    refine r_istoreV [(7, .int (0 : Int32)), (0, .ref (xad X 0)), (3, .long x3), (5, .long x5)] dX9_layYard_90 rfl (show 7 < 9 by decide) rfl ?_
    refine r_aload_n 1 dX9_layYard_92 rfl rfl rfl ?_
    refine r_lconst dX9_layYard_93 rfl kl_0 ?_
    refine r_putL fp_RX9_186 rfl rfl dX9_layYard_94 rfl h (fun σ28 h => ?_)
    refine r_iconst dX9_layYard_97 rfl ki_0 ?_
    refine r_istoreV [(8, .int (0 : Int32)), (7, .int (0 : Int32)), (0, .ref (xad X 0)), (3, .long x3), (5, .long x5)] dX9_layYard_98 rfl (show 8 < 9 by decide) rfl ?_
    refine r_sub [2, 3, 1, 0] rfl ?_
    exact lX9_layYard_100 hE FU σ28 x3 (0 : Int32) (0 : Int32) h
  · refine r_lload 2 dX9_layYard_21 rfl rfl ?_
    refine r_ldc2 dX9_layYard_23 rfl cl_RX9_230 ?_
    refine r_lrem dX9_layYard_26 rfl h (fun h => ?_)
    refine r_l2i dX9_layYard_27 rfl ?_
    refine r_istore (fun x_29 => [(8, .int x_29), (0, .ref (xad X 0)), (3, .long x3), (5, .long x5), (7, .int x7)]) dX9_layYard_28 rfl (show 8 < 9 by decide) (fun _ => rfl) h (fun x_29 h => ?_)
    refine r_lload 3 dX9_layYard_30 rfl rfl ?_
    refine r_ldc2 dX9_layYard_32 rfl cl_RX9_230 ?_
    refine r_ldiv dX9_layYard_35 rfl h (fun h => ?_)
    refine r_lstore (fun x_30 => [(5, .long x_30), (8, .int x_29), (0, .ref (xad X 0)), (3, .long x3), (7, .int x7)]) dX9_layYard_36 rfl (show 5 + 1 < 9 by decide) (fun _ => rfl) h (fun x_30 h => ?_)
    refine r_aload_n 2 dX9_layYard_38 rfl rfl rfl ?_
    refine r_getR fg_RX9_19 rfl rfl dX9_layYard_39 rfl ?_
    refine r_iload 4 dX9_layYard_42 rfl rfl ?_
    refine r_iload 1 dX9_layYard_44 rfl rfl ?_
    refine r_bipush dX9_layYard_46 rfl kb_36 ?_
    refine r_icmp_ge dX9_layYard_48 rfl rfl h (fun c h => ?_) (fun c h => ?_)
    · refine r_iload 1 dX9_layYard_56 rfl rfl ?_
      refine r_bipush dX9_layYard_58 rfl kb_36 ?_
      refine r_icmp_ne dX9_layYard_60 rfl rfl h (fun c h => ?_) (fun c h => ?_)
      · refine r_iload 1 dX9_layYard_68 rfl rfl ?_
        refine r_bipush dX9_layYard_70 rfl kb_37 ?_
        refine r_icmp_ne dX9_layYard_72 rfl rfl h (fun c h => ?_) (fun c h => ?_)
        · refine r_bipush dX9_layYard_80 rfl kb_m21 ?_
          refine r_iast rfl dX9_layYard_82 rfl h (fun σ31 h => ?_)
          refine r_iinc 4 (fun x_32 => [(7, .int x_32), (5, .long x_30), (8, .int x_29), (0, .ref (xad X 0)), (3, .long x3)]) dX9_layYard_83 rfl rfl ki_m1 (show 7 < 9 by decide) (fun _ => rfl) h (fun x_32 h => ?_)
          refine r_goto dX9_layYard_86 rfl ?_
          refine r_sub [3, 4, 1, 0] rfl ?_
          exact hr16 σ31 x3 x_30 x_32 h
        · refine r_bipush dX9_layYard_75 rfl kb_m20 ?_
          refine r_goto dX9_layYard_77 rfl ?_
          refine r_iast rfl dX9_layYard_82 rfl h (fun σ33 h => ?_)
          refine r_iinc 4 (fun x_34 => [(7, .int x_34), (5, .long x_30), (8, .int x_29), (0, .ref (xad X 0)), (3, .long x3)]) dX9_layYard_83 rfl rfl ki_m1 (show 7 < 9 by decide) (fun _ => rfl) h (fun x_34 h => ?_)
          refine r_goto dX9_layYard_86 rfl ?_
          refine r_sub [3, 4, 1, 0] rfl ?_
          exact hr16 σ33 x3 x_30 x_34 h
      · refine r_bipush dX9_layYard_63 rfl kb_m6 ?_
        refine r_goto dX9_layYard_65 rfl ?_
        refine r_iast rfl dX9_layYard_82 rfl h (fun σ35 h => ?_)
        refine r_iinc 4 (fun x_36 => [(7, .int x_36), (5, .long x_30), (8, .int x_29), (0, .ref (xad X 0)), (3, .long x3)]) dX9_layYard_83 rfl rfl ki_m1 (show 7 < 9 by decide) (fun _ => rfl) h (fun x_36 h => ?_)
        refine r_goto dX9_layYard_86 rfl ?_
        refine r_sub [3, 4, 1, 0] rfl ?_
        exact hr16 σ35 x3 x_30 x_36 h
    · refine r_iload 1 dX9_layYard_51 rfl rfl ?_
      refine r_goto dX9_layYard_53 rfl ?_
      refine r_iast rfl dX9_layYard_82 rfl h (fun σ37 h => ?_)
      refine r_iinc 4 (fun x_38 => [(7, .int x_38), (5, .long x_30), (8, .int x_29), (0, .ref (xad X 0)), (3, .long x3)]) dX9_layYard_83 rfl rfl ki_m1 (show 7 < 9 by decide) (fun _ => rfl) h (fun x_38 h => ?_)
      refine r_goto dX9_layYard_86 rfl ?_
      refine r_sub [3, 4, 1, 0] rfl ?_
      exact hr16 σ37 x3 x_30 x_38 h
noncomputable def FX9_layYard_16 (n : Nat) : Mem → Int64 → Int64 → Int32 → Option (Mem) :=
  Nat.rec (fun _ _ _ _ => none) (fun _ ih => BX9_layYard_16 ih) n
theorem lX9_layYard_16 {X : CX} {out : Mem} (hE : Ends X SM none out) : ∀ (n : Nat) (σ : Mem) (x3 : Int64) (x5 : Int64) (x7 : Int32), FX9_layYard_16 n σ x3 x5 x7 = some out → J X SM mX9_layYard σ 16 [(0, .ref (xad X 0)), (3, .long x3), (5, .long x5), (7, .int x7)] [] := by
  intro n
  induction n with
  | zero => intro σ x3 x5 x7 h; exact nn h
  | succ n ih => intro σ x3 x5 x7 h; exact jX9_layYard_16 hE (FX9_layYard_16 n) ih σ x3 x5 x7 h
noncomputable def FX9_layYard (σ : Mem) (a1 : Int64) : Option (Mem) :=
  dzL (16 : Int64) <|
  nm (a1 - a1 / (16 : Int64) * (16 : Int64)) fun x_39 =>
  dzL (16 : Int64) <|
  nm (a1 / (16 : Int64)) fun x_40 =>
  FX9_layYard_16 FU σ x_39 x_40 (5 : Int32)
set_option maxHeartbeats 4000000 in
set_option maxRecDepth 100000 in
theorem eX9_layYard {X : CX} {out : Mem} (hE : Ends X SM none out) (σ : Mem) (a1 : Int64) (h : FX9_layYard σ a1 = some out) : J X SM mX9_layYard σ 0 [(0, .ref (xad X 0)), (1, .long a1)] [] := by
  refine r_lload_n 1 dX9_layYard_0 rfl rfl rfl ?_
  refine r_ldc2 dX9_layYard_1 rfl cl_RX9_235 ?_
  refine r_lrem dX9_layYard_4 rfl h (fun h => ?_)
  refine r_lstore_n (fun x_39 => [(3, .long x_39), (0, .ref (xad X 0)), (1, .long a1)]) dX9_layYard_5 rfl rfl (show 3 + 1 < 9 by decide) (fun _ => rfl) h (fun x_39 h => ?_)
  refine r_lload_n 2 dX9_layYard_6 rfl rfl rfl ?_
  refine r_ldc2 dX9_layYard_7 rfl cl_RX9_235 ?_
  refine r_ldiv dX9_layYard_10 rfl h (fun h => ?_)
  refine r_lstore (fun x_40 => [(5, .long x_40), (3, .long x_39), (0, .ref (xad X 0)), (1, .long a1)]) dX9_layYard_11 rfl (show 5 + 1 < 9 by decide) (fun _ => rfl) h (fun x_40 h => ?_)
  refine r_iconst dX9_layYard_13 rfl ki_5 ?_
  refine r_istoreV [(7, .int (5 : Int32)), (5, .long x_40), (3, .long x_39), (0, .ref (xad X 0)), (1, .long a1)] dX9_layYard_14 rfl (show 7 < 9 by decide) rfl ?_
  refine r_sub [3, 2, 1, 0] rfl ?_
  exact lX9_layYard_16 hE FU σ x_39 x_40 (5 : Int32) h
theorem coX9_layYard (σ : Mem) (a1 : Int64) (σ2 : Mem) (h : FX9_layYard σ a1 = some σ2) : Con SM 2 yX9_layYard cX9_layYard 9 none (fun ad => [.ref (ad 0), .long a1]) σ (fun _ => none) σ2 :=
  con_of (by decide +kernel) (fun _ => Nat.le_of_ble_eq_true rfl) (fun X hE => eX9_layYard (out := σ2) hE σ a1 h)
-- IceYardModel yardNow
abbrev mX9_yardNow : MD := (cX9_yardNow, RX9, 7, (some .long), 2)
noncomputable def BX9_yardNow_42 (rl42 : Mem → Int64 → Int32 → Int64 → Int32 → Option (Int64 × Mem)) (σ : Mem) (x1 : Int64) (x3 : Int32) (x4 : Int64) (x6 : Int32) : Option (Int64 × Mem) :=
  bi (FX9_cells σ) fun r14 σ13 =>
  if r14 ≤ x6 then
  (some (((x1 * (16 : Int64)) + x4), σ13))
  else
  (rd x6 36 fun j15 =>
  if (σ13.1 1 j15) = (3 : Int32) then
  (nm (x4 ||| ((((σ13.2 0 8) >>> ((x6).toInt64 &&& 63)) &&& (1 : Int64)) <<< ((x3).toInt64 &&& 63))) fun x_17 =>
  nm (x3 + (1 : Int32)) fun x_18 =>
  nm (x6 + (1 : Int32)) fun x_19 =>
  rl42 σ13 x1 x_18 x_17 x_19)
  else
  (nm (x6 + (1 : Int32)) fun x_16 =>
  rl42 σ13 x1 x3 x4 x_16))
set_option maxHeartbeats 4000000 in
set_option maxRecDepth 100000 in
theorem jX9_yardNow_42 {X : CX} {out : Int64 × Mem} (hE : Ends X SM (some (.long out.1)) out.2) (rl42 : Mem → Int64 → Int32 → Int64 → Int32 → Option (Int64 × Mem)) (hr42 : ∀ (σ : Mem) (x1 : Int64) (x3 : Int32) (x4 : Int64) (x6 : Int32), rl42 σ x1 x3 x4 x6 = some out → J X SM mX9_yardNow σ 42 [(0, .ref (xad X 0)), (1, .long x1), (3, .int x3), (4, .long x4), (6, .int x6)] []) (σ : Mem) (x1 : Int64) (x3 : Int32) (x4 : Int64) (x6 : Int32) (h : BX9_yardNow_42 rl42 σ x1 x3 x4 x6 = some out) : J X SM mX9_yardNow σ 42 [(0, .ref (xad X 0)), (1, .long x1), (3, .int x3), (4, .long x4), (6, .int x6)] [] := by
  refine r_iload 4 dX9_yardNow_42 rfl rfl ?_
  refine r_aload_n 0 dX9_yardNow_44 rfl rfl rfl ?_
  obtain ⟨r14, σ13, hc, h⟩ := bi_of h
  refine r_callV [] [.int x6] [.int r14, .int x6]  (coX9_cells σ r14 σ13 hc) mv_RX9_182 (by decide) rfl rfl rfl rfl rfl (Nat.le_of_ble_eq_true rfl) rfl dX9_yardNow_45 rfl ?_
  refine r_icmp_ge dX9_yardNow_48 rfl rfl h (fun c h => ?_) (fun c h => ?_)
  · refine r_lload_n 1 dX9_yardNow_87 rfl rfl rfl ?_
    refine r_ldc2 dX9_yardNow_88 rfl cl_RX9_235 ?_
    refine r_lmul dX9_yardNow_91 rfl ?_
    refine r_lload 3 dX9_yardNow_92 rfl rfl ?_
    refine r_ladd dX9_yardNow_94 rfl ?_
    exact r_lret rfl dX9_yardNow_95 h hE
  · refine r_aload_n 0 dX9_yardNow_51 rfl rfl rfl ?_
    refine r_getR fg_RX9_7 rfl rfl dX9_yardNow_52 rfl ?_
    refine r_iload 4 dX9_yardNow_55 rfl rfl ?_
    refine r_iald rfl dX9_yardNow_57 rfl h (fun j15 h => ?_)
    refine r_iconst dX9_yardNow_58 rfl ki_3 ?_
    refine r_icmp_ne dX9_yardNow_59 rfl rfl h (fun c h => ?_) (fun c h => ?_)
    · refine r_iinc 4 (fun x_16 => [(6, .int x_16), (0, .ref (xad X 0)), (1, .long x1), (3, .int x3), (4, .long x4)]) dX9_yardNow_81 rfl rfl ki_1 (show 6 < 7 by decide) (fun _ => rfl) h (fun x_16 h => ?_)
      refine r_goto dX9_yardNow_84 rfl ?_
      refine r_sub [1, 2, 3, 4, 0] rfl ?_
      exact hr42 σ13 x1 x3 x4 x_16 h
    · refine r_lload 3 dX9_yardNow_62 rfl rfl ?_
      refine r_aload_n 0 dX9_yardNow_64 rfl rfl rfl ?_
      refine r_getL fg_RX9_186 rfl rfl dX9_yardNow_65 rfl ?_
      refine r_iload 4 dX9_yardNow_68 rfl rfl ?_
      refine r_lshr dX9_yardNow_70 rfl ?_
      refine r_lconst dX9_yardNow_71 rfl kl_1 ?_
      refine r_land dX9_yardNow_72 rfl ?_
      refine r_iload_n 2 dX9_yardNow_73 rfl rfl rfl ?_
      refine r_lshl dX9_yardNow_74 rfl ?_
      refine r_lor dX9_yardNow_75 rfl ?_
      refine r_lstore (fun x_17 => [(4, .long x_17), (0, .ref (xad X 0)), (1, .long x1), (3, .int x3), (6, .int x6)]) dX9_yardNow_76 rfl (show 4 + 1 < 7 by decide) (fun _ => rfl) h (fun x_17 h => ?_)
      refine r_iinc 3 (fun x_18 => [(3, .int x_18), (4, .long x_17), (0, .ref (xad X 0)), (1, .long x1), (6, .int x6)]) dX9_yardNow_78 rfl rfl ki_1 (show 3 < 7 by decide) (fun _ => rfl) h (fun x_18 h => ?_)
      refine r_iinc 4 (fun x_19 => [(6, .int x_19), (3, .int x_18), (4, .long x_17), (0, .ref (xad X 0)), (1, .long x1)]) dX9_yardNow_81 rfl rfl ki_1 (show 6 < 7 by decide) (fun _ => rfl) h (fun x_19 h => ?_)
      refine r_goto dX9_yardNow_84 rfl ?_
      refine r_sub [3, 4, 1, 2, 0] rfl ?_
      exact hr42 σ13 x1 x_18 x_17 x_19 h
noncomputable def FX9_yardNow_42 (n : Nat) : Mem → Int64 → Int32 → Int64 → Int32 → Option (Int64 × Mem) :=
  Nat.rec (fun _ _ _ _ _ => none) (fun _ ih => BX9_yardNow_42 ih) n
theorem lX9_yardNow_42 {X : CX} {out : Int64 × Mem} (hE : Ends X SM (some (.long out.1)) out.2) : ∀ (n : Nat) (σ : Mem) (x1 : Int64) (x3 : Int32) (x4 : Int64) (x6 : Int32), FX9_yardNow_42 n σ x1 x3 x4 x6 = some out → J X SM mX9_yardNow σ 42 [(0, .ref (xad X 0)), (1, .long x1), (3, .int x3), (4, .long x4), (6, .int x6)] [] := by
  intro n
  induction n with
  | zero => intro σ x1 x3 x4 x6 h; exact nn h
  | succ n ih => intro σ x1 x3 x4 x6 h; exact jX9_yardNow_42 hE (FX9_yardNow_42 n) ih σ x1 x3 x4 x6 h
noncomputable def BX9_yardNow_4 (rl4 : Mem → Int64 → Int32 → Option (Int64 × Mem)) (σ : Mem) (x1 : Int64) (x3 : Int32) : Option (Int64 × Mem) :=
  if (6 : Int32) ≤ x3 then
  (FX9_yardNow_42 FU σ x1 (0 : Int32) (0 : Int64) (0 : Int32))
  else
  (rd x3 6 fun j20 =>
  bi (FX9_codeOf σ (σ.1 4 j20)) fun r22 σ21 =>
  nm ((x1 * (64 : Int64)) + ((r22).toInt64)) fun x_23 =>
  nm (x3 + (1 : Int32)) fun x_24 =>
  rl4 σ21 x_23 x_24)
set_option maxHeartbeats 4000000 in
set_option maxRecDepth 100000 in
theorem jX9_yardNow_4 {X : CX} {out : Int64 × Mem} (hE : Ends X SM (some (.long out.1)) out.2) (rl4 : Mem → Int64 → Int32 → Option (Int64 × Mem)) (hr4 : ∀ (σ : Mem) (x1 : Int64) (x3 : Int32), rl4 σ x1 x3 = some out → J X SM mX9_yardNow σ 4 [(0, .ref (xad X 0)), (1, .long x1), (3, .int x3)] []) (σ : Mem) (x1 : Int64) (x3 : Int32) (h : BX9_yardNow_4 rl4 σ x1 x3 = some out) : J X SM mX9_yardNow σ 4 [(0, .ref (xad X 0)), (1, .long x1), (3, .int x3)] [] := by
  refine r_iload_n 2 dX9_yardNow_4 rfl rfl rfl ?_
  refine r_bipush dX9_yardNow_5 rfl kb_6 ?_
  refine r_icmp_ge dX9_yardNow_7 rfl rfl h (fun c h => ?_) (fun c h => ?_)
  · refine r_iconst dX9_yardNow_34 rfl ki_0 ?_
    refine r_istoreV_n [(3, .int (0 : Int32)), (0, .ref (xad X 0)), (1, .long x1)] dX9_yardNow_35 rfl rfl (show 3 < 7 by decide) rfl ?_
    refine r_lconst dX9_yardNow_36 rfl kl_0 ?_
    refine r_lstoreV [(4, .long (0 : Int64)), (3, .int (0 : Int32)), (0, .ref (xad X 0)), (1, .long x1)] dX9_yardNow_37 rfl (show 4 + 1 < 7 by decide) rfl ?_
    refine r_iconst dX9_yardNow_39 rfl ki_0 ?_
    refine r_istoreV [(6, .int (0 : Int32)), (4, .long (0 : Int64)), (3, .int (0 : Int32)), (0, .ref (xad X 0)), (1, .long x1)] dX9_yardNow_40 rfl (show 6 < 7 by decide) rfl ?_
    refine r_sub [3, 4, 2, 1, 0] rfl ?_
    exact lX9_yardNow_42 hE FU σ x1 (0 : Int32) (0 : Int64) (0 : Int32) h
  · refine r_lload_n 1 dX9_yardNow_10 rfl rfl rfl ?_
    refine r_ldc2 dX9_yardNow_11 rfl cl_RX9_230 ?_
    refine r_lmul dX9_yardNow_14 rfl ?_
    refine r_aload_n 0 dX9_yardNow_15 rfl rfl rfl ?_
    refine r_aload_n 0 dX9_yardNow_16 rfl rfl rfl ?_
    refine r_getR fg_RX9_19 rfl rfl dX9_yardNow_17 rfl ?_
    refine r_iload_n 2 dX9_yardNow_20 rfl rfl rfl ?_
    refine r_iald rfl dX9_yardNow_21 rfl h (fun j20 h => ?_)
    obtain ⟨r22, σ21, hc, h⟩ := bi_of h
    refine r_callV [.int (σ.1 4 j20)] [.long (x1 * (64 : Int64))] [.int r22, .long (x1 * (64 : Int64))]  (coX9_codeOf σ (σ.1 4 j20) r22 σ21 hc) mv_RX9_232 (by decide) rfl rfl rfl rfl rfl (Nat.le_of_ble_eq_true rfl) rfl dX9_yardNow_22 rfl ?_
    refine r_i2l dX9_yardNow_25 rfl ?_
    refine r_ladd dX9_yardNow_26 rfl ?_
    refine r_lstore_n (fun x_23 => [(1, .long x_23), (0, .ref (xad X 0)), (3, .int x3)]) dX9_yardNow_27 rfl rfl (show 1 + 1 < 7 by decide) (fun _ => rfl) h (fun x_23 h => ?_)
    refine r_iinc 2 (fun x_24 => [(3, .int x_24), (1, .long x_23), (0, .ref (xad X 0))]) dX9_yardNow_28 rfl rfl ki_1 (show 3 < 7 by decide) (fun _ => rfl) h (fun x_24 h => ?_)
    refine r_goto dX9_yardNow_31 rfl ?_
    refine r_sub [2, 1, 0] rfl ?_
    exact hr4 σ21 x_23 x_24 h
noncomputable def FX9_yardNow_4 (n : Nat) : Mem → Int64 → Int32 → Option (Int64 × Mem) :=
  Nat.rec (fun _ _ _ => none) (fun _ ih => BX9_yardNow_4 ih) n
theorem lX9_yardNow_4 {X : CX} {out : Int64 × Mem} (hE : Ends X SM (some (.long out.1)) out.2) : ∀ (n : Nat) (σ : Mem) (x1 : Int64) (x3 : Int32), FX9_yardNow_4 n σ x1 x3 = some out → J X SM mX9_yardNow σ 4 [(0, .ref (xad X 0)), (1, .long x1), (3, .int x3)] [] := by
  intro n
  induction n with
  | zero => intro σ x1 x3 h; exact nn h
  | succ n ih => intro σ x1 x3 h; exact jX9_yardNow_4 hE (FX9_yardNow_4 n) ih σ x1 x3 h
noncomputable def FX9_yardNow (σ : Mem) : Option (Int64 × Mem) :=
  FX9_yardNow_4 FU σ (0 : Int64) (0 : Int32)
set_option maxHeartbeats 4000000 in
set_option maxRecDepth 100000 in
theorem eX9_yardNow {X : CX} {out : Int64 × Mem} (hE : Ends X SM (some (.long out.1)) out.2) (σ : Mem) (h : FX9_yardNow σ = some out) : J X SM mX9_yardNow σ 0 [(0, .ref (xad X 0))] [] := by
  refine r_lconst dX9_yardNow_0 rfl kl_0 ?_
  refine r_lstoreV_n [(1, .long (0 : Int64)), (0, .ref (xad X 0))] dX9_yardNow_1 rfl rfl (show 1 + 1 < 7 by decide) rfl ?_
  refine r_iconst dX9_yardNow_2 rfl ki_0 ?_
  refine r_istoreV_n [(3, .int (0 : Int32)), (1, .long (0 : Int64)), (0, .ref (xad X 0))] dX9_yardNow_3 rfl rfl (show 3 < 7 by decide) rfl ?_
  refine r_sub [2, 1, 0] rfl ?_
  exact lX9_yardNow_4 hE FU σ (0 : Int64) (0 : Int32) h
theorem coX9_yardNow (σ : Mem) (r : Int64) (σ2 : Mem) (h : FX9_yardNow σ = some (r, σ2)) : Con SM 2 yX9_yardNow cX9_yardNow 7 (some .long) (fun ad => [.ref (ad 0)]) σ (fun _ => some (.long r)) σ2 :=
  con_of (by decide +kernel) (fun _ => Nat.le_of_ble_eq_true rfl) (fun X hE => eX9_yardNow (out := (r, σ2)) hE σ h)
-- IceYardModel spread
abbrev mX9_spread : MD := (cX9_spread, RX9, 4, (some .int), 5)
noncomputable def BX9_spread_2 (rl2 : Mem → Int32 → Int32 → Int32 → Option (Int32 × Mem)) (σ : Mem) (x1 : Int32) (x2 : Int32) (x3 : Int32) : Option (Int32 × Mem) :=
  if ((4 : Int32) * (σ.1 0 3)) ≤ x3 then
  (some ((0 : Int32), σ))
  else
  (rd x1 1501 fun j13 =>
  bv (FX9_layYard σ (σ.2 15 j13)) fun σ14 =>
  dzI (4 : Int32) <|
  dzI (4 : Int32) <|
  bi (FX9_goes σ14 (x3 / (4 : Int32)) (x3 - x3 / (4 : Int32) * (4 : Int32))) fun r16 σ15 =>
  if r16 = 0 then
  (nm (x3 + (1 : Int32)) fun x_17 =>
  rl2 σ15 x1 x2 x_17)
  else
  (if (((σ15.1 0 19) >>> (x2 &&& 31)) &&& (1 : Int32)) = (1 : Int32) then
  (nm (setI σ15 0 33 x1) fun σ23 =>
  nm (setI σ23 0 34 x3) fun σ24 =>
  some ((1 : Int32), σ24))
  else
  (bi (FX9_yardNow σ15) fun r19 σ18 =>
  bi (FX9_addYard σ18 r19 x1 x3) fun r21 σ20 =>
  if r21 = 0 then
  (some ((-1 : Int32), σ20))
  else
  (nm (x3 + (1 : Int32)) fun x_22 =>
  rl2 σ20 x1 x2 x_22))))
set_option maxHeartbeats 4000000 in
set_option maxRecDepth 100000 in
theorem jX9_spread_2 {X : CX} {out : Int32 × Mem} (hE : Ends X SM (some (.int out.1)) out.2) (rl2 : Mem → Int32 → Int32 → Int32 → Option (Int32 × Mem)) (hr2 : ∀ (σ : Mem) (x1 : Int32) (x2 : Int32) (x3 : Int32), rl2 σ x1 x2 x3 = some out → J X SM mX9_spread σ 2 [(0, .ref (xad X 0)), (1, .int x1), (2, .int x2), (3, .int x3)] []) (σ : Mem) (x1 : Int32) (x2 : Int32) (x3 : Int32) (h : BX9_spread_2 rl2 σ x1 x2 x3 = some out) : J X SM mX9_spread σ 2 [(0, .ref (xad X 0)), (1, .int x1), (2, .int x2), (3, .int x3)] [] := by
  refine r_iload_n 3 dX9_spread_2 rfl rfl rfl ?_
  refine r_iconst dX9_spread_3 rfl ki_4 ?_
  refine r_aload_n 0 dX9_spread_4 rfl rfl rfl ?_
  refine r_getI fg_RX9_179 rfl rfl dX9_spread_5 rfl ?_
  refine r_imul dX9_spread_8 rfl ?_
  refine r_icmp_ge dX9_spread_9 rfl rfl h (fun c h => ?_) (fun c h => ?_)
  · refine r_iconst dX9_spread_80 rfl ki_0 ?_
    exact r_iret rfl dX9_spread_81 h hE
  · refine r_aload_n 0 dX9_spread_12 rfl rfl rfl ?_
    refine r_aload_n 0 dX9_spread_13 rfl rfl rfl ?_
    refine r_getR fg_RX9_54 rfl rfl dX9_spread_14 rfl ?_
    refine r_iload_n 1 dX9_spread_17 rfl rfl rfl ?_
    refine r_lald rfl dX9_spread_18 rfl h (fun j13 h => ?_)
    obtain ⟨σ14, hc, h⟩ := bv_of h
    refine r_callV [.long (σ.2 15 j13)] [] []  (coX9_layYard σ (σ.2 15 j13) σ14 hc) mv_RX9_246 (by decide) rfl rfl rfl rfl rfl (Nat.le_of_ble_eq_true rfl) rfl dX9_spread_19 rfl ?_
    refine r_aload_n 0 dX9_spread_22 rfl rfl rfl ?_
    refine r_iload_n 3 dX9_spread_23 rfl rfl rfl ?_
    refine r_iconst dX9_spread_24 rfl ki_4 ?_
    refine r_idiv dX9_spread_25 rfl h (fun h => ?_)
    refine r_iload_n 3 dX9_spread_26 rfl rfl rfl ?_
    refine r_iconst dX9_spread_27 rfl ki_4 ?_
    refine r_irem dX9_spread_28 rfl h (fun h => ?_)
    obtain ⟨r16, σ15, hc, h⟩ := bi_of h
    refine r_callV [.int (x3 / (4 : Int32)), .int (x3 - x3 / (4 : Int32) * (4 : Int32))] [] [.int r16]  (coX9_goes σ14 (x3 / (4 : Int32)) (x3 - x3 / (4 : Int32) * (4 : Int32)) r16 σ15 hc) mv_RX9_221 (by decide) rfl rfl rfl rfl rfl (Nat.le_of_ble_eq_true rfl) rfl dX9_spread_29 rfl ?_
    refine r_if_eq dX9_spread_32 rfl rfl h (fun c h => ?_) (fun c h => ?_)
    · refine r_iinc 3 (fun x_17 => [(3, .int x_17), (0, .ref (xad X 0)), (1, .int x1), (2, .int x2)]) dX9_spread_74 rfl rfl ki_1 (show 3 < 4 by decide) (fun _ => rfl) h (fun x_17 h => ?_)
      refine r_goto dX9_spread_77 rfl ?_
      refine r_sub [1, 2, 3, 0] rfl ?_
      exact hr2 σ15 x1 x2 x_17 h
    · refine r_aload_n 0 dX9_spread_35 rfl rfl rfl ?_
      refine r_getI fg_RX9_211 rfl rfl dX9_spread_36 rfl ?_
      refine r_iload_n 2 dX9_spread_39 rfl rfl rfl ?_
      refine r_ishr dX9_spread_40 rfl ?_
      refine r_iconst dX9_spread_41 rfl ki_1 ?_
      refine r_iand dX9_spread_42 rfl ?_
      refine r_iconst dX9_spread_43 rfl ki_1 ?_
      refine r_icmp_ne dX9_spread_44 rfl rfl h (fun c h => ?_) (fun c h => ?_)
      · refine r_aload_n 0 dX9_spread_59 rfl rfl rfl ?_
        refine r_aload_n 0 dX9_spread_60 rfl rfl rfl ?_
        obtain ⟨r19, σ18, hc, h⟩ := bi_of h
        refine r_callV [] [.ref (xad X 0)] [.long r19, .ref (xad X 0)]  (coX9_yardNow σ15 r19 σ18 hc) mv_RX9_256 (by decide) rfl rfl rfl rfl rfl (Nat.le_of_ble_eq_true rfl) rfl dX9_spread_61 rfl ?_
        refine r_iload_n 1 dX9_spread_64 rfl rfl rfl ?_
        refine r_iload_n 3 dX9_spread_65 rfl rfl rfl ?_
        obtain ⟨r21, σ20, hc, h⟩ := bi_of h
        refine r_callV [.long r19, .int x1, .int x3] [] [.int r21]  (coX9_addYard σ18 r19 x1 x3 r21 σ20 hc) mv_RX9_259 (by decide) rfl rfl rfl rfl rfl (Nat.le_of_ble_eq_true rfl) rfl dX9_spread_66 rfl ?_
        refine r_if_ne dX9_spread_69 rfl rfl h (fun c h => ?_) (fun c h => ?_)
        · refine r_iinc 3 (fun x_22 => [(3, .int x_22), (0, .ref (xad X 0)), (1, .int x1), (2, .int x2)]) dX9_spread_74 rfl rfl ki_1 (show 3 < 4 by decide) (fun _ => rfl) h (fun x_22 h => ?_)
          refine r_goto dX9_spread_77 rfl ?_
          refine r_sub [1, 2, 3, 0] rfl ?_
          exact hr2 σ20 x1 x2 x_22 h
        · refine r_iconst dX9_spread_72 rfl ki_m1 ?_
          exact r_iret rfl dX9_spread_73 h hE
      · refine r_aload_n 0 dX9_spread_47 rfl rfl rfl ?_
        refine r_iload_n 1 dX9_spread_48 rfl rfl rfl ?_
        refine r_putI fp_RX9_250 rfl rfl dX9_spread_49 rfl h (fun σ23 h => ?_)
        refine r_aload_n 0 dX9_spread_52 rfl rfl rfl ?_
        refine r_iload_n 3 dX9_spread_53 rfl rfl rfl ?_
        refine r_putI fp_RX9_253 rfl rfl dX9_spread_54 rfl h (fun σ24 h => ?_)
        refine r_iconst dX9_spread_57 rfl ki_1 ?_
        exact r_iret rfl dX9_spread_58 h hE
noncomputable def FX9_spread_2 (n : Nat) : Mem → Int32 → Int32 → Int32 → Option (Int32 × Mem) :=
  Nat.rec (fun _ _ _ _ => none) (fun _ ih => BX9_spread_2 ih) n
theorem lX9_spread_2 {X : CX} {out : Int32 × Mem} (hE : Ends X SM (some (.int out.1)) out.2) : ∀ (n : Nat) (σ : Mem) (x1 : Int32) (x2 : Int32) (x3 : Int32), FX9_spread_2 n σ x1 x2 x3 = some out → J X SM mX9_spread σ 2 [(0, .ref (xad X 0)), (1, .int x1), (2, .int x2), (3, .int x3)] [] := by
  intro n
  induction n with
  | zero => intro σ x1 x2 x3 h; exact nn h
  | succ n ih => intro σ x1 x2 x3 h; exact jX9_spread_2 hE (FX9_spread_2 n) ih σ x1 x2 x3 h
noncomputable def FX9_spread (σ : Mem) (a1 : Int32) (a2 : Int32) : Option (Int32 × Mem) :=
  FX9_spread_2 FU σ a1 a2 (0 : Int32)
set_option maxHeartbeats 4000000 in
set_option maxRecDepth 100000 in
theorem eX9_spread {X : CX} {out : Int32 × Mem} (hE : Ends X SM (some (.int out.1)) out.2) (σ : Mem) (a1 : Int32) (a2 : Int32) (h : FX9_spread σ a1 a2 = some out) : J X SM mX9_spread σ 0 [(0, .ref (xad X 0)), (1, .int a1), (2, .int a2)] [] := by
  refine r_iconst dX9_spread_0 rfl ki_0 ?_
  refine r_istoreV_n [(3, .int (0 : Int32)), (0, .ref (xad X 0)), (1, .int a1), (2, .int a2)] dX9_spread_1 rfl rfl (show 3 < 4 by decide) rfl ?_
  refine r_sub [1, 2, 3, 0] rfl ?_
  exact lX9_spread_2 hE FU σ a1 a2 (0 : Int32) h
theorem coX9_spread (σ : Mem) (a1 : Int32) (a2 : Int32) (r : Int32) (σ2 : Mem) (h : FX9_spread σ a1 a2 = some (r, σ2)) : Con SM 5 yX9_spread cX9_spread 4 (some .int) (fun ad => [.ref (ad 0), .int a1, .int a2]) σ (fun _ => some (.int r)) σ2 :=
  con_of (by decide +kernel) (fun _ => Nat.le_of_ble_eq_true rfl) (fun X hE => eX9_spread (out := (r, σ2)) hE σ a1 a2 h)
-- IceYardModel fewest
abbrev mX9_fewest : MD := (cX9_fewest, RX9, 7, (some .int), 6)
noncomputable def FX9_fewest_186 (σ : Mem) (x2 : Int32) (x4 : Int32) : Option (Int32 × Mem) :=
  if 0 ≤ x2 then
  (some ((-9 : Int32), σ))
  else
  (some (x4, σ))
set_option maxHeartbeats 4000000 in
set_option maxRecDepth 100000 in
theorem jX9_fewest_186 {X : CX} {out : Int32 × Mem} (hE : Ends X SM (some (.int out.1)) out.2) (σ : Mem) (x2 : Int32) (x4 : Int32) (h : FX9_fewest_186 σ x2 x4 = some out) : J X SM mX9_fewest σ 186 [(2, .int x2), (4, .int x4)] [] := by
  refine r_iload_n 0 dX9_fewest_186 rfl rfl rfl ?_
  refine r_if_ge dX9_fewest_187 rfl rfl h (fun c h => ?_) (fun c h => ?_)
  · refine r_bipush dX9_fewest_195 rfl kb_m9 ?_
    exact r_iret rfl dX9_fewest_197 h hE
  · refine r_iload 1 dX9_fewest_190 rfl rfl ?_
    refine r_goto dX9_fewest_192 rfl ?_
    exact r_iret rfl dX9_fewest_197 h hE
noncomputable def BX9_fewest_137 (rl137 : Mem → Int32 → Int32 → Int32 → Option (Int32 × Mem)) (σ : Mem) (x2 : Int32) (x4 : Int32) (x5 : Int32) : Option (Int32 × Mem) :=
  rd x5 1501 fun j26 =>
  if (σ.1 16 j26) < 0 then
  (if x2 < 0 then
  (FX9_fewest_186 σ x2 x4)
  else
  (if x2 < x4 then
  (rd ((x4 - (1 : Int32)) - x2) 1501 fun j27 =>
  nm (σ.1 19 j27) fun x_28 =>
  dzI (4 : Int32) <|
  dzI (4 : Int32) <|
  some ((((10 : Int32) * (x_28 / (4 : Int32))) + (x_28 - x_28 / (4 : Int32) * (4 : Int32))), σ))
  else
  (FX9_fewest_186 σ x2 x4)))
  else
  (rd x5 1501 fun j29 =>
  stI σ 19 1501 x4 (σ.1 17 j29) fun σ30 =>
  rd x5 1501 fun j31 =>
  nm (σ30.1 16 j31) fun x_32 =>
  nm (x4 + (1 : Int32)) fun x_33 =>
  rl137 σ30 x2 x_33 x_32)
set_option maxHeartbeats 4000000 in
set_option maxRecDepth 100000 in
theorem jX9_fewest_137 {X : CX} {out : Int32 × Mem} (hE : Ends X SM (some (.int out.1)) out.2) (rl137 : Mem → Int32 → Int32 → Int32 → Option (Int32 × Mem)) (hr137 : ∀ (σ : Mem) (x2 : Int32) (x4 : Int32) (x5 : Int32), rl137 σ x2 x4 x5 = some out → J X SM mX9_fewest σ 137 [(0, .ref (xad X 0)), (2, .int x2), (4, .int x4), (5, .int x5)] []) (σ : Mem) (x2 : Int32) (x4 : Int32) (x5 : Int32) (h : BX9_fewest_137 rl137 σ x2 x4 x5 = some out) : J X SM mX9_fewest σ 137 [(0, .ref (xad X 0)), (2, .int x2), (4, .int x4), (5, .int x5)] [] := by
  refine r_aload_n 0 dX9_fewest_137 rfl rfl rfl ?_
  refine r_getR fg_RX9_57 rfl rfl dX9_fewest_138 rfl ?_
  refine r_iload 3 dX9_fewest_141 rfl rfl ?_
  refine r_iald rfl dX9_fewest_143 rfl h (fun j26 h => ?_)
  refine r_if_lt dX9_fewest_144 rfl rfl h (fun c h => ?_) (fun c h => ?_)
  · refine r_iload_n 1 dX9_fewest_176 rfl rfl rfl ?_
    refine r_if_lt dX9_fewest_177 rfl rfl h (fun c h => ?_) (fun c h => ?_)
    · refine r_sub [1, 2] rfl ?_
      exact jX9_fewest_186 hE σ x2 x4 h
    · refine r_iload_n 1 dX9_fewest_180 rfl rfl rfl ?_
      refine r_iload 2 dX9_fewest_181 rfl rfl ?_
      refine r_icmp_lt dX9_fewest_183 rfl rfl h (fun c h => ?_) (fun c h => ?_)
      · refine r_aload_n 0 dX9_fewest_198 rfl rfl rfl ?_
        refine r_getR fg_RX9_66 rfl rfl dX9_fewest_199 rfl ?_
        refine r_iload 2 dX9_fewest_202 rfl rfl ?_
        refine r_iconst dX9_fewest_204 rfl ki_1 ?_
        refine r_isub dX9_fewest_205 rfl ?_
        refine r_iload_n 1 dX9_fewest_206 rfl rfl rfl ?_
        refine r_isub dX9_fewest_207 rfl ?_
        refine r_iald rfl dX9_fewest_208 rfl h (fun j27 h => ?_)
        refine r_istore (fun x_28 => [(6, .int x_28), (0, .ref (xad X 0)), (2, .int x2), (4, .int x4), (5, .int x5)]) dX9_fewest_209 rfl (show 6 < 7 by decide) (fun _ => rfl) h (fun x_28 h => ?_)
        refine r_bipush dX9_fewest_211 rfl kb_10 ?_
        refine r_iload 0 dX9_fewest_213 rfl rfl ?_
        refine r_iconst dX9_fewest_215 rfl ki_4 ?_
        refine r_idiv dX9_fewest_216 rfl h (fun h => ?_)
        refine r_imul dX9_fewest_217 rfl ?_
        refine r_iload 0 dX9_fewest_218 rfl rfl ?_
        refine r_iconst dX9_fewest_220 rfl ki_4 ?_
        refine r_irem dX9_fewest_221 rfl h (fun h => ?_)
        refine r_iadd dX9_fewest_222 rfl ?_
        exact r_iret rfl dX9_fewest_223 h hE
      · refine r_sub [1, 2] rfl ?_
        exact jX9_fewest_186 hE σ x2 x4 h
  · refine r_aload_n 0 dX9_fewest_147 rfl rfl rfl ?_
    refine r_getR fg_RX9_66 rfl rfl dX9_fewest_148 rfl ?_
    refine r_iload 2 dX9_fewest_151 rfl rfl ?_
    refine r_aload_n 0 dX9_fewest_153 rfl rfl rfl ?_
    refine r_getR fg_RX9_60 rfl rfl dX9_fewest_154 rfl ?_
    refine r_iload 3 dX9_fewest_157 rfl rfl ?_
    refine r_iald rfl dX9_fewest_159 rfl h (fun j29 h => ?_)
    refine r_iast rfl dX9_fewest_160 rfl h (fun σ30 h => ?_)
    refine r_aload_n 0 dX9_fewest_161 rfl rfl rfl ?_
    refine r_getR fg_RX9_57 rfl rfl dX9_fewest_162 rfl ?_
    refine r_iload 3 dX9_fewest_165 rfl rfl ?_
    refine r_iald rfl dX9_fewest_167 rfl h (fun j31 h => ?_)
    refine r_istore (fun x_32 => [(5, .int x_32), (0, .ref (xad X 0)), (2, .int x2), (4, .int x4)]) dX9_fewest_168 rfl (show 5 < 7 by decide) (fun _ => rfl) h (fun x_32 h => ?_)
    refine r_iinc 3 (fun x_33 => [(4, .int x_33), (5, .int x_32), (0, .ref (xad X 0)), (2, .int x2)]) dX9_fewest_170 rfl rfl ki_1 (show 4 < 7 by decide) (fun _ => rfl) h (fun x_33 h => ?_)
    refine r_goto dX9_fewest_173 rfl ?_
    refine r_sub [2, 3, 0, 1] rfl ?_
    exact hr137 σ30 x2 x_33 x_32 h
noncomputable def FX9_fewest_137 (n : Nat) : Mem → Int32 → Int32 → Int32 → Option (Int32 × Mem) :=
  Nat.rec (fun _ _ _ _ => none) (fun _ ih => BX9_fewest_137 ih) n
theorem lX9_fewest_137 {X : CX} {out : Int32 × Mem} (hE : Ends X SM (some (.int out.1)) out.2) : ∀ (n : Nat) (σ : Mem) (x2 : Int32) (x4 : Int32) (x5 : Int32), FX9_fewest_137 n σ x2 x4 x5 = some out → J X SM mX9_fewest σ 137 [(0, .ref (xad X 0)), (2, .int x2), (4, .int x4), (5, .int x5)] [] := by
  intro n
  induction n with
  | zero => intro σ x2 x4 x5 h; exact nn h
  | succ n ih => intro σ x2 x4 x5 h; exact jX9_fewest_137 hE (FX9_fewest_137 n) ih σ x2 x4 x5 h
noncomputable def FX9_fewest_94 (σ : Mem) (x2 : Int32) (x3 : Int32) : Option (Int32 × Mem) :=
  bv (FX9_give σ (4 : Int32)) fun σ34 =>
  if 0 < x3 then
  (nm (σ34.1 0 33) fun x_35 =>
  stI σ34 19 1501 (0 : Int32) (σ34.1 0 34) fun σ36 =>
  nm ((0 : Int32) + (1 : Int32)) fun x_37 =>
  FX9_fewest_137 FU σ36 x2 x_37 x_35)
  else
  (if 0 ≤ x3 then
  (some ((-9 : Int32), σ34))
  else
  (some ((-5 : Int32), σ34)))
set_option maxHeartbeats 4000000 in
set_option maxRecDepth 100000 in
theorem jX9_fewest_94 {X : CX} {out : Int32 × Mem} (hE : Ends X SM (some (.int out.1)) out.2) (σ : Mem) (x2 : Int32) (x3 : Int32) (h : FX9_fewest_94 σ x2 x3 = some out) : J X SM mX9_fewest σ 94 [(0, .ref (xad X 0)), (2, .int x2), (3, .int x3)] [] := by
  refine r_aload_n 0 dX9_fewest_94 rfl rfl rfl ?_
  refine r_iconst dX9_fewest_95 rfl ki_4 ?_
  obtain ⟨σ34, hc, h⟩ := bv_of h
  refine r_callV [.int (4 : Int32)] [] []  (coX9_give σ (4 : Int32) σ34 hc) mv_RX9_227 (by decide) rfl rfl rfl rfl rfl (Nat.le_of_ble_eq_true rfl) rfl dX9_fewest_96 rfl ?_
  refine r_iload_n 2 dX9_fewest_99 rfl rfl rfl ?_
  refine r_if_gt dX9_fewest_100 rfl rfl h (fun c h => ?_) (fun c h => ?_)
  · refine r_iconst dX9_fewest_115 rfl ki_0 ?_
    refine r_istoreV [(4, .int (0 : Int32)), (0, .ref (xad X 0)), (2, .int x2), (3, .int x3)] dX9_fewest_116 rfl (show 4 < 7 by decide) rfl ?_
    refine r_aload_n 1 dX9_fewest_118 rfl rfl rfl ?_
    refine r_getI fg_RX9_250 rfl rfl dX9_fewest_119 rfl ?_
    refine r_istore (fun x_35 => [(5, .int x_35), (4, .int (0 : Int32)), (0, .ref (xad X 0)), (2, .int x2), (3, .int x3)]) dX9_fewest_122 rfl (show 5 < 7 by decide) (fun _ => rfl) h (fun x_35 h => ?_)
    refine r_aload_n 2 dX9_fewest_124 rfl rfl rfl ?_
    refine r_getR fg_RX9_66 rfl rfl dX9_fewest_125 rfl ?_
    refine r_iconst dX9_fewest_128 rfl ki_0 ?_
    refine r_aload_n 2 dX9_fewest_129 rfl rfl rfl ?_
    refine r_getI fg_RX9_253 rfl rfl dX9_fewest_130 rfl ?_
    refine r_iast rfl dX9_fewest_133 rfl h (fun σ36 h => ?_)
    refine r_iinc 1 (fun x_37 => [(4, .int x_37), (5, .int x_35), (0, .ref (xad X 0)), (2, .int x2), (3, .int x3)]) dX9_fewest_134 rfl rfl ki_1 (show 4 < 7 by decide) (fun _ => rfl) h (fun x_37 h => ?_)
    refine r_sub [2, 3, 0, 1] rfl ?_
    exact lX9_fewest_137 hE FU σ36 x2 x_37 x_35 h
  · refine r_iload_n 2 dX9_fewest_103 rfl rfl rfl ?_
    refine r_if_ge dX9_fewest_104 rfl rfl h (fun c h => ?_) (fun c h => ?_)
    · refine r_bipush dX9_fewest_112 rfl kb_m9 ?_
      exact r_iret rfl dX9_fewest_114 h hE
    · refine r_bipush dX9_fewest_107 rfl kb_m5 ?_
      refine r_goto dX9_fewest_109 rfl ?_
      exact r_iret rfl dX9_fewest_114 h hE
noncomputable def BX9_fewest_67 (rl67 : Mem → Int32 → Int32 → Int32 → Int32 → Option (Int32 × Mem)) (σ : Mem) (x1 : Int32) (x2 : Int32) (x3 : Int32) (x4 : Int32) : Option (Int32 × Mem) :=
  if (σ.1 0 32) ≤ x4 then
  (FX9_fewest_94 σ x2 x3)
  else
  (if x3 = 0 then
  (bi (FX9_spread σ x4 x1) fun r39 σ38 =>
  nm (x4 + (1 : Int32)) fun x_40 =>
  rl67 σ38 x1 x2 r39 x_40)
  else
  (FX9_fewest_94 σ x2 x3))
set_option maxHeartbeats 4000000 in
set_option maxRecDepth 100000 in
theorem jX9_fewest_67 {X : CX} {out : Int32 × Mem} (hE : Ends X SM (some (.int out.1)) out.2) (rl67 : Mem → Int32 → Int32 → Int32 → Int32 → Option (Int32 × Mem)) (hr67 : ∀ (σ : Mem) (x1 : Int32) (x2 : Int32) (x3 : Int32) (x4 : Int32), rl67 σ x1 x2 x3 x4 = some out → J X SM mX9_fewest σ 67 [(0, .ref (xad X 0)), (1, .int x1), (2, .int x2), (3, .int x3), (4, .int x4)] []) (σ : Mem) (x1 : Int32) (x2 : Int32) (x3 : Int32) (x4 : Int32) (h : BX9_fewest_67 rl67 σ x1 x2 x3 x4 = some out) : J X SM mX9_fewest σ 67 [(0, .ref (xad X 0)), (1, .int x1), (2, .int x2), (3, .int x3), (4, .int x4)] [] := by
  refine r_iload 4 dX9_fewest_67 rfl rfl ?_
  refine r_aload_n 0 dX9_fewest_69 rfl rfl rfl ?_
  refine r_getI fg_RX9_243 rfl rfl dX9_fewest_70 rfl ?_
  refine r_icmp_ge dX9_fewest_73 rfl rfl h (fun c h => ?_) (fun c h => ?_)
  · refine r_sub [0, 2, 3] rfl ?_
    exact jX9_fewest_94 hE σ x2 x3 h
  · refine r_iload_n 3 dX9_fewest_76 rfl rfl rfl ?_
    refine r_if_ne dX9_fewest_77 rfl rfl h (fun c h => ?_) (fun c h => ?_)
    · refine r_sub [0, 2, 3] rfl ?_
      exact jX9_fewest_94 hE σ x2 x3 h
    · refine r_aload_n 0 dX9_fewest_80 rfl rfl rfl ?_
      refine r_iload 4 dX9_fewest_81 rfl rfl ?_
      refine r_iload_n 1 dX9_fewest_83 rfl rfl rfl ?_
      obtain ⟨r39, σ38, hc, h⟩ := bi_of h
      refine r_callV [.int x4, .int x1] [] [.int r39]  (coX9_spread σ x4 x1 r39 σ38 hc) mv_RX9_263 (by decide) rfl rfl rfl rfl rfl (Nat.le_of_ble_eq_true rfl) rfl dX9_fewest_84 rfl ?_
      refine r_istoreV_n [(3, .int r39), (0, .ref (xad X 0)), (1, .int x1), (2, .int x2), (4, .int x4)] dX9_fewest_87 rfl rfl (show 3 < 7 by decide) rfl ?_
      refine r_iinc 4 (fun x_40 => [(4, .int x_40), (3, .int r39), (0, .ref (xad X 0)), (1, .int x1), (2, .int x2)]) dX9_fewest_88 rfl rfl ki_1 (show 4 < 7 by decide) (fun _ => rfl) h (fun x_40 h => ?_)
      refine r_goto dX9_fewest_91 rfl ?_
      refine r_sub [2, 3, 4, 1, 0] rfl ?_
      exact hr67 σ38 x1 x2 r39 x_40 h
noncomputable def FX9_fewest_67 (n : Nat) : Mem → Int32 → Int32 → Int32 → Int32 → Option (Int32 × Mem) :=
  Nat.rec (fun _ _ _ _ _ => none) (fun _ ih => BX9_fewest_67 ih) n
theorem lX9_fewest_67 {X : CX} {out : Int32 × Mem} (hE : Ends X SM (some (.int out.1)) out.2) : ∀ (n : Nat) (σ : Mem) (x1 : Int32) (x2 : Int32) (x3 : Int32) (x4 : Int32), FX9_fewest_67 n σ x1 x2 x3 x4 = some out → J X SM mX9_fewest σ 67 [(0, .ref (xad X 0)), (1, .int x1), (2, .int x2), (3, .int x3), (4, .int x4)] [] := by
  intro n
  induction n with
  | zero => intro σ x1 x2 x3 x4 h; exact nn h
  | succ n ih => intro σ x1 x2 x3 x4 h; exact jX9_fewest_67 hE (FX9_fewest_67 n) ih σ x1 x2 x3 x4 h
noncomputable def BX9_fewest_24 (rl24 : Mem → Int32 → Int32 → Int32 → Option (Int32 × Mem)) (σ : Mem) (x1 : Int32) (x2 : Int32) (x3 : Int32) : Option (Int32 × Mem) :=
  if (4096 : Int32) ≤ x3 then
  (nm (setI σ 0 32 (0 : Int32)) fun σ41 =>
  bi (FX9_yardNow σ41) fun r43 σ42 =>
  bi (FX9_addYard σ42 r43 (-9 : Int32) (-9 : Int32)) fun r45 σ44 =>
  FX9_fewest_67 FU σ44 x1 x2 (0 : Int32) (0 : Int32))
  else
  (stI σ 18 4096 x3 (0 : Int32) fun σ46 =>
  nm (x3 + (1 : Int32)) fun x_47 =>
  rl24 σ46 x1 x2 x_47)
set_option maxHeartbeats 4000000 in
set_option maxRecDepth 100000 in
theorem jX9_fewest_24 {X : CX} {out : Int32 × Mem} (hE : Ends X SM (some (.int out.1)) out.2) (rl24 : Mem → Int32 → Int32 → Int32 → Option (Int32 × Mem)) (hr24 : ∀ (σ : Mem) (x1 : Int32) (x2 : Int32) (x3 : Int32), rl24 σ x1 x2 x3 = some out → J X SM mX9_fewest σ 24 [(0, .ref (xad X 0)), (1, .int x1), (2, .int x2), (3, .int x3)] []) (σ : Mem) (x1 : Int32) (x2 : Int32) (x3 : Int32) (h : BX9_fewest_24 rl24 σ x1 x2 x3 = some out) : J X SM mX9_fewest σ 24 [(0, .ref (xad X 0)), (1, .int x1), (2, .int x2), (3, .int x3)] [] := by
  refine r_iload_n 3 dX9_fewest_24 rfl rfl rfl ?_
  refine r_sipush dX9_fewest_25 rfl ks_4096 ?_
  refine r_icmp_ge dX9_fewest_28 rfl rfl h (fun c h => ?_) (fun c h => ?_)
  · refine r_aload_n 0 dX9_fewest_44 rfl rfl rfl ?_
    refine r_iconst dX9_fewest_45 rfl ki_0 ?_
    refine r_putI fp_RX9_243 rfl rfl dX9_fewest_46 rfl h (fun σ41 h => ?_)
    refine r_aload_n 0 dX9_fewest_49 rfl rfl rfl ?_
    refine r_aload_n 0 dX9_fewest_50 rfl rfl rfl ?_
    obtain ⟨r43, σ42, hc, h⟩ := bi_of h
    refine r_callV [] [.ref (xad X 0)] [.long r43, .ref (xad X 0)]  (coX9_yardNow σ41 r43 σ42 hc) mv_RX9_256 (by decide) rfl rfl rfl rfl rfl (Nat.le_of_ble_eq_true rfl) rfl dX9_fewest_51 rfl ?_
    refine r_bipush dX9_fewest_54 rfl kb_m9 ?_
    refine r_bipush dX9_fewest_56 rfl kb_m9 ?_
    obtain ⟨r45, σ44, hc, h⟩ := bi_of h
    refine r_callV [.long r43, .int (-9 : Int32), .int (-9 : Int32)] [] [.int r45]  (coX9_addYard σ42 r43 (-9 : Int32) (-9 : Int32) r45 σ44 hc) mv_RX9_259 (by decide) rfl rfl rfl rfl rfl (Nat.le_of_ble_eq_true rfl) rfl dX9_fewest_58 rfl ?_
    refine r_pop dX9_fewest_61 rfl rfl ?_
    refine r_iconst dX9_fewest_62 rfl ki_0 ?_
    refine r_istoreV_n [(3, .int (0 : Int32)), (0, .ref (xad X 0)), (1, .int x1), (2, .int x2)] dX9_fewest_63 rfl rfl (show 3 < 7 by decide) rfl ?_
    refine r_iconst dX9_fewest_64 rfl ki_0 ?_
    refine r_istoreV [(4, .int (0 : Int32)), (3, .int (0 : Int32)), (0, .ref (xad X 0)), (1, .int x1), (2, .int x2)] dX9_fewest_65 rfl (show 4 < 7 by decide) rfl ?_
    refine r_sub [2, 3, 4, 1, 0] rfl ?_
    exact lX9_fewest_67 hE FU σ44 x1 x2 (0 : Int32) (0 : Int32) h
  · refine r_aload_n 0 dX9_fewest_31 rfl rfl rfl ?_
    refine r_getR fg_RX9_63 rfl rfl dX9_fewest_32 rfl ?_
    refine r_iload_n 3 dX9_fewest_35 rfl rfl rfl ?_
    refine r_iconst dX9_fewest_36 rfl ki_0 ?_
    refine r_iast rfl dX9_fewest_37 rfl h (fun σ46 h => ?_)
    refine r_iinc 3 (fun x_47 => [(3, .int x_47), (0, .ref (xad X 0)), (1, .int x1), (2, .int x2)]) dX9_fewest_38 rfl rfl ki_1 (show 3 < 7 by decide) (fun _ => rfl) h (fun x_47 h => ?_)
    refine r_goto dX9_fewest_41 rfl ?_
    refine r_sub [1, 2, 3, 0] rfl ?_
    exact hr24 σ46 x1 x2 x_47 h
noncomputable def FX9_fewest_24 (n : Nat) : Mem → Int32 → Int32 → Int32 → Option (Int32 × Mem) :=
  Nat.rec (fun _ _ _ _ => none) (fun _ ih => BX9_fewest_24 ih) n
theorem lX9_fewest_24 {X : CX} {out : Int32 × Mem} (hE : Ends X SM (some (.int out.1)) out.2) : ∀ (n : Nat) (σ : Mem) (x1 : Int32) (x2 : Int32) (x3 : Int32), FX9_fewest_24 n σ x1 x2 x3 = some out → J X SM mX9_fewest σ 24 [(0, .ref (xad X 0)), (1, .int x1), (2, .int x2), (3, .int x3)] [] := by
  intro n
  induction n with
  | zero => intro σ x1 x2 x3 h; exact nn h
  | succ n ih => intro σ x1 x2 x3 h; exact jX9_fewest_24 hE (FX9_fewest_24 n) ih σ x1 x2 x3 h
noncomputable def FX9_fewest (σ : Mem) (a1 : Int32) (a2 : Int32) : Option (Int32 × Mem) :=
  bi (FX9_in σ ((a1).toInt64) (0 : Int64) (1 : Int64)) fun r49 σ48 =>
  if r49 = 0 then
  (some ((-1 : Int32), σ48))
  else
  (if (-1 : Int32) ≤ a2 then
  (bv (FX9_hold σ48 (4 : Int32)) fun σ50 =>
  FX9_fewest_24 FU σ50 a1 a2 (0 : Int32))
  else
  (some ((-1 : Int32), σ48)))
set_option maxHeartbeats 4000000 in
set_option maxRecDepth 100000 in
theorem eX9_fewest {X : CX} {out : Int32 × Mem} (hE : Ends X SM (some (.int out.1)) out.2) (σ : Mem) (a1 : Int32) (a2 : Int32) (h : FX9_fewest σ a1 a2 = some out) : J X SM mX9_fewest σ 0 [(0, .ref (xad X 0)), (1, .int a1), (2, .int a2)] [] := by
  refine r_iload_n 1 dX9_fewest_0 rfl rfl rfl ?_
  refine r_i2l dX9_fewest_1 rfl ?_
  refine r_lconst dX9_fewest_2 rfl kl_0 ?_
  refine r_lconst dX9_fewest_3 rfl kl_1 ?_
  obtain ⟨r49, σ48, hc, h⟩ := bi_of h
  refine r_callS [] [.int r49]  (coX9_in σ ((a1).toInt64) (0 : Int64) (1 : Int64) r49 σ48 hc) ms_RX9_142 (by decide) rfl rfl (Nat.le_of_ble_eq_true rfl) rfl dX9_fewest_4 rfl ?_
  refine r_if_eq dX9_fewest_7 rfl rfl h (fun c h => ?_) (fun c h => ?_)
  · refine r_iconst dX9_fewest_15 rfl ki_m1 ?_
    exact r_iret rfl dX9_fewest_16 h hE
  · refine r_iload_n 2 dX9_fewest_10 rfl rfl rfl ?_
    refine r_iconst dX9_fewest_11 rfl ki_m1 ?_
    refine r_icmp_ge dX9_fewest_12 rfl rfl h (fun c h => ?_) (fun c h => ?_)
    · refine r_aload_n 0 dX9_fewest_17 rfl rfl rfl ?_
      refine r_iconst dX9_fewest_18 rfl ki_4 ?_
      obtain ⟨σ50, hc, h⟩ := bv_of h
      refine r_callV [.int (4 : Int32)] [] []  (coX9_hold σ48 (4 : Int32) σ50 hc) mv_RX9_217 (by decide) rfl rfl rfl rfl rfl (Nat.le_of_ble_eq_true rfl) rfl dX9_fewest_19 rfl ?_
      refine r_iconst dX9_fewest_22 rfl ki_0 ?_
      refine r_istoreV_n [(3, .int (0 : Int32)), (0, .ref (xad X 0)), (1, .int a1), (2, .int a2)] dX9_fewest_23 rfl rfl (show 3 < 7 by decide) rfl ?_
      refine r_sub [1, 2, 3, 0] rfl ?_
      exact lX9_fewest_24 hE FU σ50 a1 a2 (0 : Int32) h
    · refine r_iconst dX9_fewest_15 rfl ki_m1 ?_
      exact r_iret rfl dX9_fewest_16 h hE
theorem coX9_fewest (σ : Mem) (a1 : Int32) (a2 : Int32) (r : Int32) (σ2 : Mem) (h : FX9_fewest σ a1 a2 = some (r, σ2)) : Con SM 6 yX9_fewest cX9_fewest 7 (some .int) (fun ad => [.ref (ad 0), .int a1, .int a2]) σ (fun _ => some (.int r)) σ2 :=
  con_of (by decide +kernel) (fun _ => Nat.le_of_ble_eq_true rfl) (fun X hE => eX9_fewest (out := (r, σ2)) hE σ a1 a2 h)
-- IceYardModel figure
abbrev mX9_figure : MD := (cX9_figure, RX9, 5, (some .int), 2)
noncomputable def FX9_figure_38 (σ : Mem) (x3 : Int32) (x4 : Int32) (s0 : Int32) (s1 : Int32) : Option (Int32 × Mem) :=
  nm (setI σ 0 9 (s1 + s0)) fun σ7 =>
  if x4 = 0 then
  (some ((-9 : Int32), σ7))
  else
  (some (x3, σ7))
set_option maxHeartbeats 4000000 in
set_option maxRecDepth 100000 in
theorem jX9_figure_38 {X : CX} {out : Int32 × Mem} (hE : Ends X SM (some (.int out.1)) out.2) (σ : Mem) (x3 : Int32) (x4 : Int32) (s0 : Int32) (s1 : Int32) (h : FX9_figure_38 σ x3 x4 s0 s1 = some out) : J X SM mX9_figure σ 38 [(3, .int x3), (4, .int x4)] [.int s0, .int s1, .ref (xad X 0)] := by
  refine r_iadd dX9_figure_38 rfl ?_
  refine r_putI fp_RX9_121 rfl rfl dX9_figure_39 rfl h (fun σ7 h => ?_)
  refine r_iload 1 dX9_figure_42 rfl rfl ?_
  refine r_if_eq dX9_figure_44 rfl rfl h (fun c h => ?_) (fun c h => ?_)
  · refine r_bipush dX9_figure_51 rfl kb_m9 ?_
    exact r_iret rfl dX9_figure_53 h hE
  · refine r_iload_n 0 dX9_figure_47 rfl rfl rfl ?_
    refine r_goto dX9_figure_48 rfl ?_
    exact r_iret rfl dX9_figure_53 h hE
noncomputable def FX9_figure (σ : Mem) (a1 : Int32) (a2 : Int32) : Option (Int32 × Mem) :=
  bi (FX9_codeAt σ a1 a2) fun r9 σ8 =>
  nm (r9 - (48 : Int32)) fun x_10 =>
  bi (FX9_in σ8 ((x_10).toInt64) (3 : Int64) (6 : Int64)) fun r12 σ11 =>
  if r12 = 0 then
  (FX9_figure_38 σ11 x_10 r12 (0 : Int32) (σ11.1 0 9))
  else
  (FX9_figure_38 σ11 x_10 r12 (1 : Int32) (σ11.1 0 9))
set_option maxHeartbeats 4000000 in
set_option maxRecDepth 100000 in
theorem eX9_figure {X : CX} {out : Int32 × Mem} (hE : Ends X SM (some (.int out.1)) out.2) (σ : Mem) (a1 : Int32) (a2 : Int32) (h : FX9_figure σ a1 a2 = some out) : J X SM mX9_figure σ 0 [(0, .ref (xad X 0)), (1, .int a1), (2, .int a2)] [] := by
  refine r_aload_n 0 dX9_figure_0 rfl rfl rfl ?_
  refine r_iload_n 1 dX9_figure_1 rfl rfl rfl ?_
  refine r_iload_n 2 dX9_figure_2 rfl rfl rfl ?_
  obtain ⟨r9, σ8, hc, h⟩ := bi_of h
  refine r_callV [.int a1, .int a2] [] [.int r9]  (coX9_codeAt σ a1 a2 r9 σ8 hc) mv_RX9_124 (by decide) rfl rfl rfl rfl rfl (Nat.le_of_ble_eq_true rfl) rfl dX9_figure_3 rfl ?_
  refine r_bipush dX9_figure_6 rfl kb_48 ?_
  refine r_isub dX9_figure_8 rfl ?_
  refine r_istore_n (fun x_10 => [(3, .int x_10), (0, .ref (xad X 0)), (1, .int a1), (2, .int a2)]) dX9_figure_9 rfl rfl (show 3 < 5 by decide) (fun _ => rfl) h (fun x_10 h => ?_)
  refine r_iload_n 0 dX9_figure_10 rfl rfl rfl ?_
  refine r_i2l dX9_figure_11 rfl ?_
  refine r_ldc2 dX9_figure_12 rfl cl_RX9_138 ?_
  refine r_ldc2 dX9_figure_15 rfl cl_RX9_140 ?_
  obtain ⟨r12, σ11, hc, h⟩ := bi_of h
  refine r_callS [] [.int r12]  (coX9_in σ8 ((x_10).toInt64) (3 : Int64) (6 : Int64) r12 σ11 hc) ms_RX9_142 (by decide) rfl rfl (Nat.le_of_ble_eq_true rfl) rfl dX9_figure_18 rfl ?_
  refine r_istoreV [(4, .int r12), (3, .int x_10), (0, .ref (xad X 0)), (1, .int a1), (2, .int a2)] dX9_figure_21 rfl (show 4 < 5 by decide) rfl ?_
  refine r_aload_n 2 dX9_figure_23 rfl rfl rfl ?_
  refine r_dup dX9_figure_24 rfl rfl ?_
  refine r_getI fg_RX9_121 rfl rfl dX9_figure_25 rfl ?_
  refine r_iload 0 dX9_figure_28 rfl rfl ?_
  refine r_if_eq dX9_figure_30 rfl rfl h (fun c h => ?_) (fun c h => ?_)
  · refine r_iconst dX9_figure_37 rfl ki_0 ?_
    refine r_sub [1, 0] rfl ?_
    exact jX9_figure_38 hE σ11 x_10 r12 (0 : Int32) (σ11.1 0 9) h
  · refine r_iconst dX9_figure_33 rfl ki_1 ?_
    refine r_goto dX9_figure_34 rfl ?_
    refine r_sub [1, 0] rfl ?_
    exact jX9_figure_38 hE σ11 x_10 r12 (1 : Int32) (σ11.1 0 9) h
theorem coX9_figure (σ : Mem) (a1 : Int32) (a2 : Int32) (r : Int32) (σ2 : Mem) (h : FX9_figure σ a1 a2 = some (r, σ2)) : Con SM 2 yX9_figure cX9_figure 5 (some .int) (fun ad => [.ref (ad 0), .int a1, .int a2]) σ (fun _ => some (.int r)) σ2 :=
  con_of (by decide +kernel) (fun _ => Nat.le_of_ble_eq_true rfl) (fun X hE => eX9_figure (out := (r, σ2)) hE σ a1 a2 h)
-- IceYardModel tryNext
abbrev mX9_tryNext : MD := (cX9_tryNext, RX9, 5, (some .boolean), 5)
noncomputable def FX9_tryNext_128 (σ : Mem) (x1 : Int32) (x4 : Int32) : Option (Int32 × Mem) :=
  if x4 = 0 then
  (bv (FX9_descend σ x1) fun σ20 =>
  rz (1 : Int32) σ20)
  else
  (bv (FX9_learn σ x1 (0 : Int32)) fun σ21 =>
  rz (1 : Int32) σ21)
set_option maxHeartbeats 4000000 in
set_option maxRecDepth 100000 in
theorem jX9_tryNext_128 {X : CX} {out : Int32 × Mem} (hE : Ends X SM (some (.int out.1)) out.2) (σ : Mem) (x1 : Int32) (x4 : Int32) (h : FX9_tryNext_128 σ x1 x4 = some out) : J X SM mX9_tryNext σ 128 [(0, .ref (xad X 0)), (1, .int x1), (4, .int x4)] [] := by
  refine r_iload 2 dX9_tryNext_128 rfl rfl ?_
  refine r_if_eq dX9_tryNext_130 rfl rfl h (fun c h => ?_) (fun c h => ?_)
  · refine r_aload_n 0 dX9_tryNext_142 rfl rfl rfl ?_
    refine r_iload_n 1 dX9_tryNext_143 rfl rfl rfl ?_
    obtain ⟨σ20, hc, h⟩ := bv_of h
    refine r_callV [.int x1] [] []  (coX9_descend σ x1 σ20 hc) mv_RX9_285 (by decide) rfl rfl rfl rfl rfl (Nat.le_of_ble_eq_true rfl) rfl dX9_tryNext_144 rfl ?_
    refine r_iconst dX9_tryNext_147 rfl ki_1 ?_
    exact r_zret rfl dX9_tryNext_148 h hE
  · refine r_aload_n 0 dX9_tryNext_133 rfl rfl rfl ?_
    refine r_iload_n 1 dX9_tryNext_134 rfl rfl rfl ?_
    refine r_iconst dX9_tryNext_135 rfl ki_0 ?_
    obtain ⟨σ21, hc, h⟩ := bv_of h
    refine r_callV [.int x1, .int (0 : Int32)] [] []  (coX9_learn σ x1 (0 : Int32) σ21 hc) mv_RX9_275 (by decide) rfl rfl rfl rfl rfl (Nat.le_of_ble_eq_true rfl) rfl dX9_tryNext_136 rfl ?_
    refine r_goto dX9_tryNext_139 rfl ?_
    refine r_iconst dX9_tryNext_147 rfl ki_1 ?_
    exact r_zret rfl dX9_tryNext_148 h hE
noncomputable def FX9_tryNext_119 (σ : Mem) (x1 : Int32) : Option (Int32 × Mem) :=
  bv (FX9_learn σ x1 (1 : Int32)) fun σ22 =>
  rz (1 : Int32) σ22
set_option maxHeartbeats 4000000 in
set_option maxRecDepth 100000 in
theorem jX9_tryNext_119 {X : CX} {out : Int32 × Mem} (hE : Ends X SM (some (.int out.1)) out.2) (σ : Mem) (x1 : Int32) (h : FX9_tryNext_119 σ x1 = some out) : J X SM mX9_tryNext σ 119 [(0, .ref (xad X 0)), (1, .int x1)] [] := by
  refine r_aload_n 0 dX9_tryNext_119 rfl rfl rfl ?_
  refine r_iload_n 1 dX9_tryNext_120 rfl rfl rfl ?_
  refine r_iconst dX9_tryNext_121 rfl ki_1 ?_
  obtain ⟨σ22, hc, h⟩ := bv_of h
  refine r_callV [.int x1, .int (1 : Int32)] [] []  (coX9_learn σ x1 (1 : Int32) σ22 hc) mv_RX9_275 (by decide) rfl rfl rfl rfl rfl (Nat.le_of_ble_eq_true rfl) rfl dX9_tryNext_122 rfl ?_
  refine r_goto dX9_tryNext_125 rfl ?_
  refine r_iconst dX9_tryNext_147 rfl ki_1 ?_
  exact r_zret rfl dX9_tryNext_148 h hE
noncomputable def FX9_tryNext_100 (σ : Mem) (x1 : Int32) (x3 : Int32) (s0 : Int32) : Option (Int32 × Mem) :=
  if x3 = 0 then
  (FX9_tryNext_128 σ x1 s0)
  else
  (if s0 = 0 then
  (FX9_tryNext_119 σ x1)
  else
  (bi (FX9_isOwn σ x1) fun r24 σ23 =>
  if r24 = 0 then
  (FX9_tryNext_128 σ23 x1 s0)
  else
  (FX9_tryNext_119 σ23 x1)))
set_option maxHeartbeats 4000000 in
set_option maxRecDepth 100000 in
theorem jX9_tryNext_100 {X : CX} {out : Int32 × Mem} (hE : Ends X SM (some (.int out.1)) out.2) (σ : Mem) (x1 : Int32) (x3 : Int32) (s0 : Int32) (h : FX9_tryNext_100 σ x1 x3 s0 = some out) : J X SM mX9_tryNext σ 100 [(0, .ref (xad X 0)), (1, .int x1), (3, .int x3)] [.int s0] := by
  refine r_istoreV [(4, .int s0), (0, .ref (xad X 0)), (1, .int x1), (3, .int x3)] dX9_tryNext_100 rfl (show 4 < 5 by decide) rfl ?_
  refine r_iload_n 3 dX9_tryNext_102 rfl rfl rfl ?_
  refine r_if_eq dX9_tryNext_103 rfl rfl h (fun c h => ?_) (fun c h => ?_)
  · refine r_sub [1, 2, 0] rfl ?_
    exact jX9_tryNext_128 hE σ x1 s0 h
  · refine r_iload 0 dX9_tryNext_106 rfl rfl ?_
    refine r_if_eq dX9_tryNext_108 rfl rfl h (fun c h => ?_) (fun c h => ?_)
    · refine r_sub [1, 2] rfl ?_
      exact jX9_tryNext_119 hE σ x1 h
    · refine r_aload_n 1 dX9_tryNext_111 rfl rfl rfl ?_
      refine r_iload_n 2 dX9_tryNext_112 rfl rfl rfl ?_
      obtain ⟨r24, σ23, hc, h⟩ := bi_of h
      refine r_callV [.int x1] [] [.int r24]  (coX9_isOwn σ x1 r24 σ23 hc) mv_RX9_269 (by decide) rfl rfl rfl rfl rfl (Nat.le_of_ble_eq_true rfl) rfl dX9_tryNext_113 rfl ?_
      refine r_if_eq dX9_tryNext_116 rfl rfl h (fun c h => ?_) (fun c h => ?_)
      · refine r_sub [1, 2, 0] rfl ?_
        exact jX9_tryNext_128 hE σ23 x1 s0 h
      · refine r_sub [1, 2] rfl ?_
        exact jX9_tryNext_119 hE σ23 x1 h
noncomputable def FX9_tryNext_77 (σ : Mem) (x1 : Int32) (s0 : Int32) : Option (Int32 × Mem) :=
  if (((σ.1 0 19) >>> (((1 : Int32) - (σ.1 0 43)) &&& 31)) &&& (1 : Int32)) = (1 : Int32) then
  (FX9_tryNext_100 σ x1 s0 (1 : Int32))
  else
  (FX9_tryNext_100 σ x1 s0 (0 : Int32))
set_option maxHeartbeats 4000000 in
set_option maxRecDepth 100000 in
theorem jX9_tryNext_77 {X : CX} {out : Int32 × Mem} (hE : Ends X SM (some (.int out.1)) out.2) (σ : Mem) (x1 : Int32) (s0 : Int32) (h : FX9_tryNext_77 σ x1 s0 = some out) : J X SM mX9_tryNext σ 77 [(0, .ref (xad X 0)), (1, .int x1)] [.int s0] := by
  refine r_istoreV_n [(3, .int s0), (0, .ref (xad X 0)), (1, .int x1)] dX9_tryNext_77 rfl rfl (show 3 < 5 by decide) rfl ?_
  refine r_aload_n 1 dX9_tryNext_78 rfl rfl rfl ?_
  refine r_getI fg_RX9_211 rfl rfl dX9_tryNext_79 rfl ?_
  refine r_iconst dX9_tryNext_82 rfl ki_1 ?_
  refine r_aload_n 1 dX9_tryNext_83 rfl rfl rfl ?_
  refine r_getI fg_RX9_282 rfl rfl dX9_tryNext_84 rfl ?_
  refine r_isub dX9_tryNext_87 rfl ?_
  refine r_ishr dX9_tryNext_88 rfl ?_
  refine r_iconst dX9_tryNext_89 rfl ki_1 ?_
  refine r_iand dX9_tryNext_90 rfl ?_
  refine r_iconst dX9_tryNext_91 rfl ki_1 ?_
  refine r_icmp_ne dX9_tryNext_92 rfl rfl h (fun c h => ?_) (fun c h => ?_)
  · refine r_iconst dX9_tryNext_99 rfl ki_0 ?_
    refine r_sub [1, 2, 0] rfl ?_
    exact jX9_tryNext_100 hE σ x1 s0 (0 : Int32) h
  · refine r_iconst dX9_tryNext_95 rfl ki_1 ?_
    refine r_goto dX9_tryNext_96 rfl ?_
    refine r_sub [1, 2, 0] rfl ?_
    exact jX9_tryNext_100 hE σ x1 s0 (1 : Int32) h
noncomputable def BX9_tryNext_0 (rl0 : Mem → Int32 → Option (Int32 × Mem)) (σ : Mem) (x1 : Int32) : Option (Int32 × Mem) :=
  rd x1 5 fun j25 =>
  if ((4 : Int32) * (σ.1 0 3)) ≤ (σ.1 20 j25) then
  (rd x1 5 fun j26 =>
  if (σ.1 21 j26) = 0 then
  (rd x1 5 fun j27 =>
  if (σ.1 22 j27) = 0 then
  (stZ σ 22 5 x1 (1 : Int32) fun σ28 =>
  bv (FX9_give σ28 x1) fun σ29 =>
  bv (FX9_descend σ29 x1) fun σ30 =>
  rz (1 : Int32) σ30)
  else
  (rz (0 : Int32) σ))
  else
  (rz (0 : Int32) σ))
  else
  (rd x1 5 fun j31 =>
  nm (σ.1 20 j31) fun x_32 =>
  rd x1 5 fun j33 =>
  stI σ 20 5 x1 ((σ.1 20 j33) + (1 : Int32)) fun σ34 =>
  bv (FX9_give σ34 x1) fun σ35 =>
  dzI (4 : Int32) <|
  dzI (4 : Int32) <|
  bi (FX9_goes σ35 (x_32 / (4 : Int32)) (x_32 - x_32 / (4 : Int32) * (4 : Int32))) fun r37 σ36 =>
  if r37 = 0 then
  (rl0 σ36 x1)
  else
  (stZ σ36 21 5 x1 (1 : Int32) fun σ38 =>
  if (((σ38.1 0 19) >>> ((σ38.1 0 43) &&& 31)) &&& (1 : Int32)) = (1 : Int32) then
  (FX9_tryNext_77 σ38 x1 (1 : Int32))
  else
  (FX9_tryNext_77 σ38 x1 (0 : Int32))))
set_option maxHeartbeats 4000000 in
set_option maxRecDepth 100000 in
theorem jX9_tryNext_0 {X : CX} {out : Int32 × Mem} (hE : Ends X SM (some (.int out.1)) out.2) (rl0 : Mem → Int32 → Option (Int32 × Mem)) (hr0 : ∀ (σ : Mem) (x1 : Int32), rl0 σ x1 = some out → J X SM mX9_tryNext σ 0 [(0, .ref (xad X 0)), (1, .int x1)] []) (σ : Mem) (x1 : Int32) (h : BX9_tryNext_0 rl0 σ x1 = some out) : J X SM mX9_tryNext σ 0 [(0, .ref (xad X 0)), (1, .int x1)] [] := by
  refine r_aload_n 0 dX9_tryNext_0 rfl rfl rfl ?_
  refine r_getR fg_RX9_69 rfl rfl dX9_tryNext_1 rfl ?_
  refine r_iload_n 1 dX9_tryNext_4 rfl rfl rfl ?_
  refine r_iald rfl dX9_tryNext_5 rfl h (fun j25 h => ?_)
  refine r_iconst dX9_tryNext_6 rfl ki_4 ?_
  refine r_aload_n 0 dX9_tryNext_7 rfl rfl rfl ?_
  refine r_getI fg_RX9_179 rfl rfl dX9_tryNext_8 rfl ?_
  refine r_imul dX9_tryNext_11 rfl ?_
  refine r_icmp_ge dX9_tryNext_12 rfl rfl h (fun c h => ?_) (fun c h => ?_)
  · refine r_aload_n 0 dX9_tryNext_152 rfl rfl rfl ?_
    refine r_getR fg_RX9_72 rfl rfl dX9_tryNext_153 rfl ?_
    refine r_iload_n 1 dX9_tryNext_156 rfl rfl rfl ?_
    refine r_zald rfl dX9_tryNext_157 rfl h (fun j26 h => ?_)
    refine r_if_ne dX9_tryNext_158 rfl rfl h (fun c h => ?_) (fun c h => ?_)
    · refine r_iconst dX9_tryNext_189 rfl ki_0 ?_
      exact r_zret rfl dX9_tryNext_190 h hE
    · refine r_aload_n 0 dX9_tryNext_161 rfl rfl rfl ?_
      refine r_getR fg_RX9_75 rfl rfl dX9_tryNext_162 rfl ?_
      refine r_iload_n 1 dX9_tryNext_165 rfl rfl rfl ?_
      refine r_zald rfl dX9_tryNext_166 rfl h (fun j27 h => ?_)
      refine r_if_ne dX9_tryNext_167 rfl rfl h (fun c h => ?_) (fun c h => ?_)
      · refine r_iconst dX9_tryNext_189 rfl ki_0 ?_
        exact r_zret rfl dX9_tryNext_190 h hE
      · refine r_aload_n 0 dX9_tryNext_170 rfl rfl rfl ?_
        refine r_getR fg_RX9_75 rfl rfl dX9_tryNext_171 rfl ?_
        refine r_iload_n 1 dX9_tryNext_174 rfl rfl rfl ?_
        refine r_iconst dX9_tryNext_175 rfl ki_1 ?_
        refine r_zast rfl dX9_tryNext_176 rfl h (fun σ28 h => ?_)
        refine r_aload_n 0 dX9_tryNext_177 rfl rfl rfl ?_
        refine r_iload_n 1 dX9_tryNext_178 rfl rfl rfl ?_
        obtain ⟨σ29, hc, h⟩ := bv_of h
        refine r_callV [.int x1] [] []  (coX9_give σ28 x1 σ29 hc) mv_RX9_227 (by decide) rfl rfl rfl rfl rfl (Nat.le_of_ble_eq_true rfl) rfl dX9_tryNext_179 rfl ?_
        refine r_aload_n 0 dX9_tryNext_182 rfl rfl rfl ?_
        refine r_iload_n 1 dX9_tryNext_183 rfl rfl rfl ?_
        obtain ⟨σ30, hc, h⟩ := bv_of h
        refine r_callV [.int x1] [] []  (coX9_descend σ29 x1 σ30 hc) mv_RX9_285 (by decide) rfl rfl rfl rfl rfl (Nat.le_of_ble_eq_true rfl) rfl dX9_tryNext_184 rfl ?_
        refine r_iconst dX9_tryNext_187 rfl ki_1 ?_
        exact r_zret rfl dX9_tryNext_188 h hE
  · refine r_aload_n 0 dX9_tryNext_15 rfl rfl rfl ?_
    refine r_getR fg_RX9_69 rfl rfl dX9_tryNext_16 rfl ?_
    refine r_iload_n 1 dX9_tryNext_19 rfl rfl rfl ?_
    refine r_iald rfl dX9_tryNext_20 rfl h (fun j31 h => ?_)
    refine r_istore_n (fun x_32 => [(2, .int x_32), (0, .ref (xad X 0)), (1, .int x1)]) dX9_tryNext_21 rfl rfl (show 2 < 5 by decide) (fun _ => rfl) h (fun x_32 h => ?_)
    refine r_aload_n 1 dX9_tryNext_22 rfl rfl rfl ?_
    refine r_getR fg_RX9_69 rfl rfl dX9_tryNext_23 rfl ?_
    refine r_iload_n 2 dX9_tryNext_26 rfl rfl rfl ?_
    refine r_dup2 dX9_tryNext_27 rfl rfl rfl ?_
    refine r_iald rfl dX9_tryNext_28 rfl h (fun j33 h => ?_)
    refine r_iconst dX9_tryNext_29 rfl ki_1 ?_
    refine r_iadd dX9_tryNext_30 rfl ?_
    refine r_iast rfl dX9_tryNext_31 rfl h (fun σ34 h => ?_)
    refine r_aload_n 1 dX9_tryNext_32 rfl rfl rfl ?_
    refine r_iload_n 2 dX9_tryNext_33 rfl rfl rfl ?_
    obtain ⟨σ35, hc, h⟩ := bv_of h
    refine r_callV [.int x1] [] []  (coX9_give σ34 x1 σ35 hc) mv_RX9_227 (by decide) rfl rfl rfl rfl rfl (Nat.le_of_ble_eq_true rfl) rfl dX9_tryNext_34 rfl ?_
    refine r_aload_n 1 dX9_tryNext_37 rfl rfl rfl ?_
    refine r_iload_n 0 dX9_tryNext_38 rfl rfl rfl ?_
    refine r_iconst dX9_tryNext_39 rfl ki_4 ?_
    refine r_idiv dX9_tryNext_40 rfl h (fun h => ?_)
    refine r_iload_n 0 dX9_tryNext_41 rfl rfl rfl ?_
    refine r_iconst dX9_tryNext_42 rfl ki_4 ?_
    refine r_irem dX9_tryNext_43 rfl h (fun h => ?_)
    obtain ⟨r37, σ36, hc, h⟩ := bi_of h
    refine r_callV [.int (x_32 / (4 : Int32)), .int (x_32 - x_32 / (4 : Int32) * (4 : Int32))] [] [.int r37]  (coX9_goes σ35 (x_32 / (4 : Int32)) (x_32 - x_32 / (4 : Int32) * (4 : Int32)) r37 σ36 hc) mv_RX9_221 (by decide) rfl rfl rfl rfl rfl (Nat.le_of_ble_eq_true rfl) rfl dX9_tryNext_44 rfl ?_
    refine r_if_eq dX9_tryNext_47 rfl rfl h (fun c h => ?_) (fun c h => ?_)
    · refine r_goto dX9_tryNext_149 rfl ?_
      refine r_sub [1, 2] rfl ?_
      exact hr0 σ36 x1 h
    · refine r_aload_n 1 dX9_tryNext_50 rfl rfl rfl ?_
      refine r_getR fg_RX9_72 rfl rfl dX9_tryNext_51 rfl ?_
      refine r_iload_n 2 dX9_tryNext_54 rfl rfl rfl ?_
      refine r_iconst dX9_tryNext_55 rfl ki_1 ?_
      refine r_zast rfl dX9_tryNext_56 rfl h (fun σ38 h => ?_)
      refine r_aload_n 1 dX9_tryNext_57 rfl rfl rfl ?_
      refine r_getI fg_RX9_211 rfl rfl dX9_tryNext_58 rfl ?_
      refine r_aload_n 1 dX9_tryNext_61 rfl rfl rfl ?_
      refine r_getI fg_RX9_282 rfl rfl dX9_tryNext_62 rfl ?_
      refine r_ishr dX9_tryNext_65 rfl ?_
      refine r_iconst dX9_tryNext_66 rfl ki_1 ?_
      refine r_iand dX9_tryNext_67 rfl ?_
      refine r_iconst dX9_tryNext_68 rfl ki_1 ?_
      refine r_icmp_ne dX9_tryNext_69 rfl rfl h (fun c h => ?_) (fun c h => ?_)
      · refine r_iconst dX9_tryNext_76 rfl ki_0 ?_
        refine r_sub [1, 2] rfl ?_
        exact jX9_tryNext_77 hE σ38 x1 (0 : Int32) h
      · refine r_iconst dX9_tryNext_72 rfl ki_1 ?_
        refine r_goto dX9_tryNext_73 rfl ?_
        refine r_sub [1, 2] rfl ?_
        exact jX9_tryNext_77 hE σ38 x1 (1 : Int32) h
noncomputable def FX9_tryNext_0 (n : Nat) : Mem → Int32 → Option (Int32 × Mem) :=
  Nat.rec (fun _ _ => none) (fun _ ih => BX9_tryNext_0 ih) n
theorem lX9_tryNext_0 {X : CX} {out : Int32 × Mem} (hE : Ends X SM (some (.int out.1)) out.2) : ∀ (n : Nat) (σ : Mem) (x1 : Int32), FX9_tryNext_0 n σ x1 = some out → J X SM mX9_tryNext σ 0 [(0, .ref (xad X 0)), (1, .int x1)] [] := by
  intro n
  induction n with
  | zero => intro σ x1 h; exact nn h
  | succ n ih => intro σ x1 h; exact jX9_tryNext_0 hE (FX9_tryNext_0 n) ih σ x1 h
noncomputable def FX9_tryNext (σ : Mem) (a1 : Int32) : Option (Int32 × Mem) :=
  FX9_tryNext_0 FU σ a1
set_option maxHeartbeats 4000000 in
set_option maxRecDepth 100000 in
theorem eX9_tryNext {X : CX} {out : Int32 × Mem} (hE : Ends X SM (some (.int out.1)) out.2) (σ : Mem) (a1 : Int32) (h : FX9_tryNext σ a1 = some out) : J X SM mX9_tryNext σ 0 [(0, .ref (xad X 0)), (1, .int a1)] [] := by
  exact lX9_tryNext_0 hE FU σ a1 h
theorem coX9_tryNext (σ : Mem) (a1 : Int32) (r : Int32) (σ2 : Mem) (h : FX9_tryNext σ a1 = some (r, σ2)) : Con SM 5 yX9_tryNext cX9_tryNext 5 (some .boolean) (fun ad => [.ref (ad 0), .int a1]) σ (fun _ => some (.int r)) σ2 :=
  con_of (by decide +kernel) (fun _ => Nat.le_of_ble_eq_true rfl) (fun X hE => eX9_tryNext (out := (r, σ2)) hE σ a1 h)
-- IceYardModel hasWon
abbrev mX9_hasWon : MD := (cX9_hasWon, RX9, 4, (some .boolean), 6)
noncomputable def FX9_hasWon_37 (rl15 : Mem → Option (Int32 × Mem)) (σ : Mem) (x3 : Int32) : Option (Int32 × Mem) :=
  if x3 = 0 then
  (bv (FX9_give σ (0 : Int32)) fun σ16 =>
  rd (0 : Int32) 5 fun j17 =>
  rz (σ16.1 23 j17) σ16)
  else
  (nm (setI σ 0 41 (x3 - (1 : Int32))) fun σ13 =>
  rd x3 5 fun j14 =>
  bv (FX9_learn σ13 (x3 - (1 : Int32)) (σ13.1 23 j14)) fun σ15 =>
  rl15 σ15)
set_option maxHeartbeats 4000000 in
set_option maxRecDepth 100000 in
theorem jX9_hasWon_37 {X : CX} {out : Int32 × Mem} (hE : Ends X SM (some (.int out.1)) out.2) (rl15 : Mem → Option (Int32 × Mem)) (hr15 : ∀ (σ : Mem), rl15 σ = some out → J X SM mX9_hasWon σ 15 [(0, .ref (xad X 0))] []) (σ : Mem) (x3 : Int32) (h : FX9_hasWon_37 rl15 σ x3 = some out) : J X SM mX9_hasWon σ 37 [(0, .ref (xad X 0)), (3, .int x3)] [] := by
  refine r_iload_n 1 dX9_hasWon_37 rfl rfl rfl ?_
  refine r_if_ne dX9_hasWon_38 rfl rfl h (fun c h => ?_) (fun c h => ?_)
  · refine r_aload_n 0 dX9_hasWon_53 rfl rfl rfl ?_
    refine r_iload_n 1 dX9_hasWon_54 rfl rfl rfl ?_
    refine r_iconst dX9_hasWon_55 rfl ki_1 ?_
    refine r_isub dX9_hasWon_56 rfl ?_
    refine r_putI fp_RX9_266 rfl rfl dX9_hasWon_57 rfl h (fun σ13 h => ?_)
    refine r_aload_n 0 dX9_hasWon_60 rfl rfl rfl ?_
    refine r_iload_n 1 dX9_hasWon_61 rfl rfl rfl ?_
    refine r_iconst dX9_hasWon_62 rfl ki_1 ?_
    refine r_isub dX9_hasWon_63 rfl ?_
    refine r_aload_n 0 dX9_hasWon_64 rfl rfl rfl ?_
    refine r_getR fg_RX9_78 rfl rfl dX9_hasWon_65 rfl ?_
    refine r_iload_n 1 dX9_hasWon_68 rfl rfl rfl ?_
    refine r_zald rfl dX9_hasWon_69 rfl h (fun j14 h => ?_)
    obtain ⟨σ15, hc, h⟩ := bv_of h
    refine r_callV [.int (x3 - (1 : Int32)), .int (σ13.1 23 j14)] [] []  (coX9_learn σ13 (x3 - (1 : Int32)) (σ13.1 23 j14) σ15 hc) mv_RX9_275 (by decide) rfl rfl rfl rfl rfl (Nat.le_of_ble_eq_true rfl) rfl dX9_hasWon_70 rfl ?_
    refine r_goto dX9_hasWon_73 rfl ?_
    refine r_sub [0] rfl ?_
    exact hr15 σ15 h
  · refine r_aload_n 0 dX9_hasWon_41 rfl rfl rfl ?_
    refine r_iconst dX9_hasWon_42 rfl ki_0 ?_
    obtain ⟨σ16, hc, h⟩ := bv_of h
    refine r_callV [.int (0 : Int32)] [] []  (coX9_give σ (0 : Int32) σ16 hc) mv_RX9_227 (by decide) rfl rfl rfl rfl rfl (Nat.le_of_ble_eq_true rfl) rfl dX9_hasWon_43 rfl ?_
    refine r_aload_n 0 dX9_hasWon_46 rfl rfl rfl ?_
    refine r_getR fg_RX9_78 rfl rfl dX9_hasWon_47 rfl ?_
    refine r_iconst dX9_hasWon_50 rfl ki_0 ?_
    refine r_zald rfl dX9_hasWon_51 rfl h (fun j17 h => ?_)
    exact r_zret rfl dX9_hasWon_52 h hE
noncomputable def BX9_hasWon_15 (rl15 : Mem → Option (Int32 × Mem)) (σ : Mem) : Option (Int32 × Mem) :=
  nm (σ.1 0 41) fun x_18 =>
  rd x_18 5 fun j19 =>
  if (σ.1 24 j19) = 0 then
  (bi (FX9_tryNext σ x_18) fun r21 σ20 =>
  if r21 = 0 then
  (FX9_hasWon_37 rl15 σ20 x_18)
  else
  (rl15 σ20))
  else
  (FX9_hasWon_37 rl15 σ x_18)
set_option maxHeartbeats 4000000 in
set_option maxRecDepth 100000 in
theorem jX9_hasWon_15 {X : CX} {out : Int32 × Mem} (hE : Ends X SM (some (.int out.1)) out.2) (rl15 : Mem → Option (Int32 × Mem)) (hr15 : ∀ (σ : Mem), rl15 σ = some out → J X SM mX9_hasWon σ 15 [(0, .ref (xad X 0))] []) (σ : Mem) (h : BX9_hasWon_15 rl15 σ = some out) : J X SM mX9_hasWon σ 15 [(0, .ref (xad X 0))] [] := by
  refine r_aload_n 0 dX9_hasWon_15 rfl rfl rfl ?_
  refine r_getI fg_RX9_266 rfl rfl dX9_hasWon_16 rfl ?_
  refine r_istore_n (fun x_18 => [(3, .int x_18), (0, .ref (xad X 0))]) dX9_hasWon_19 rfl rfl (show 3 < 4 by decide) (fun _ => rfl) h (fun x_18 h => ?_)
  refine r_aload_n 1 dX9_hasWon_20 rfl rfl rfl ?_
  refine r_getR fg_RX9_81 rfl rfl dX9_hasWon_21 rfl ?_
  refine r_iload_n 0 dX9_hasWon_24 rfl rfl rfl ?_
  refine r_zald rfl dX9_hasWon_25 rfl h (fun j19 h => ?_)
  refine r_if_ne dX9_hasWon_26 rfl rfl h (fun c h => ?_) (fun c h => ?_)
  · refine r_sub [1, 0] rfl ?_
    exact jX9_hasWon_37 hE rl15 hr15 σ x_18 h
  · refine r_aload_n 1 dX9_hasWon_29 rfl rfl rfl ?_
    refine r_iload_n 0 dX9_hasWon_30 rfl rfl rfl ?_
    obtain ⟨r21, σ20, hc, h⟩ := bi_of h
    refine r_callV [.int x_18] [] [.int r21]  (coX9_tryNext σ x_18 r21 σ20 hc) mv_RX9_288 (by decide) rfl rfl rfl rfl rfl (Nat.le_of_ble_eq_true rfl) rfl dX9_hasWon_31 rfl ?_
    refine r_if_ne dX9_hasWon_34 rfl rfl h (fun c h => ?_) (fun c h => ?_)
    · refine r_goto dX9_hasWon_73 rfl ?_
      refine r_sub [1] rfl ?_
      exact hr15 σ20 h
    · refine r_sub [1, 0] rfl ?_
      exact jX9_hasWon_37 hE rl15 hr15 σ20 x_18 h
noncomputable def FX9_hasWon_15 (n : Nat) : Mem → Option (Int32 × Mem) :=
  Nat.rec (fun _ => none) (fun _ ih => BX9_hasWon_15 ih) n
theorem lX9_hasWon_15 {X : CX} {out : Int32 × Mem} (hE : Ends X SM (some (.int out.1)) out.2) : ∀ (n : Nat) (σ : Mem), FX9_hasWon_15 n σ = some out → J X SM mX9_hasWon σ 15 [(0, .ref (xad X 0))] [] := by
  intro n
  induction n with
  | zero => intro σ h; exact nn h
  | succ n ih => intro σ h; exact jX9_hasWon_15 hE (FX9_hasWon_15 n) ih σ h
noncomputable def FX9_hasWon (σ : Mem) (a1 : Int32) (a2 : Int32) : Option (Int32 × Mem) :=
  nm (setI σ 0 43 a1) fun σ22 =>
  nm (setI σ22 0 42 a2) fun σ23 =>
  bv (FX9_enter σ23 (0 : Int32)) fun σ24 =>
  FX9_hasWon_15 FU σ24
set_option maxHeartbeats 4000000 in
set_option maxRecDepth 100000 in
theorem eX9_hasWon {X : CX} {out : Int32 × Mem} (hE : Ends X SM (some (.int out.1)) out.2) (σ : Mem) (a1 : Int32) (a2 : Int32) (h : FX9_hasWon σ a1 a2 = some out) : J X SM mX9_hasWon σ 0 [(0, .ref (xad X 0)), (1, .int a1), (2, .int a2)] [] := by
  refine r_aload_n 0 dX9_hasWon_0 rfl rfl rfl ?_
  refine r_iload_n 1 dX9_hasWon_1 rfl rfl rfl ?_
  refine r_putI fp_RX9_282 rfl rfl dX9_hasWon_2 rfl h (fun σ22 h => ?_)
  refine r_aload_n 0 dX9_hasWon_5 rfl rfl rfl ?_
  refine r_iload_n 2 dX9_hasWon_6 rfl rfl rfl ?_
  refine r_putI fp_RX9_272 rfl rfl dX9_hasWon_7 rfl h (fun σ23 h => ?_)
  refine r_aload_n 0 dX9_hasWon_10 rfl rfl rfl ?_
  refine r_iconst dX9_hasWon_11 rfl ki_0 ?_
  obtain ⟨σ24, hc, h⟩ := bv_of h
  refine r_callV [.int (0 : Int32)] [] []  (coX9_enter σ23 (0 : Int32) σ24 hc) mv_RX9_279 (by decide) rfl rfl rfl rfl rfl (Nat.le_of_ble_eq_true rfl) rfl dX9_hasWon_12 rfl ?_
  refine r_sub [0] rfl ?_
  exact lX9_hasWon_15 hE FU σ24 h
theorem coX9_hasWon (σ : Mem) (a1 : Int32) (a2 : Int32) (r : Int32) (σ2 : Mem) (h : FX9_hasWon σ a1 a2 = some (r, σ2)) : Con SM 6 yX9_hasWon cX9_hasWon 4 (some .boolean) (fun ad => [.ref (ad 0), .int a1, .int a2]) σ (fun _ => some (.int r)) σ2 :=
  con_of (by decide +kernel) (fun _ => Nat.le_of_ble_eq_true rfl) (fun X hE => eX9_hasWon (out := (r, σ2)) hE σ a1 a2 h)
-- IceYardModel wonIn
abbrev mX9_wonIn : MD := (cX9_wonIn, RX9, 3, (some .int), 7)
noncomputable def BX9_wonIn_2 (rl2 : Mem → Int32 → Int32 → Option (Int32 × Mem)) (σ : Mem) (x1 : Int32) (x2 : Int32) : Option (Int32 × Mem) :=
  if (5 : Int32) ≤ x2 then
  (some ((-9 : Int32), σ))
  else
  (bi (FX9_hasWon σ x1 x2) fun r5 σ4 =>
  if r5 = 0 then
  (nm (x2 + (1 : Int32)) fun x_6 =>
  rl2 σ4 x1 x_6)
  else
  (some (x2, σ4)))
set_option maxHeartbeats 4000000 in
set_option maxRecDepth 100000 in
theorem jX9_wonIn_2 {X : CX} {out : Int32 × Mem} (hE : Ends X SM (some (.int out.1)) out.2) (rl2 : Mem → Int32 → Int32 → Option (Int32 × Mem)) (hr2 : ∀ (σ : Mem) (x1 : Int32) (x2 : Int32), rl2 σ x1 x2 = some out → J X SM mX9_wonIn σ 2 [(0, .ref (xad X 0)), (1, .int x1), (2, .int x2)] []) (σ : Mem) (x1 : Int32) (x2 : Int32) (h : BX9_wonIn_2 rl2 σ x1 x2 = some out) : J X SM mX9_wonIn σ 2 [(0, .ref (xad X 0)), (1, .int x1), (2, .int x2)] [] := by
  refine r_iload_n 2 dX9_wonIn_2 rfl rfl rfl ?_
  refine r_iconst dX9_wonIn_3 rfl ki_5 ?_
  refine r_icmp_ge dX9_wonIn_4 rfl rfl h (fun c h => ?_) (fun c h => ?_)
  · refine r_bipush dX9_wonIn_24 rfl kb_m9 ?_
    exact r_iret rfl dX9_wonIn_26 h hE
  · refine r_aload_n 0 dX9_wonIn_7 rfl rfl rfl ?_
    refine r_iload_n 1 dX9_wonIn_8 rfl rfl rfl ?_
    refine r_iload_n 2 dX9_wonIn_9 rfl rfl rfl ?_
    obtain ⟨r5, σ4, hc, h⟩ := bi_of h
    refine r_callV [.int x1, .int x2] [] [.int r5]  (coX9_hasWon σ x1 x2 r5 σ4 hc) mv_RX9_291 (by decide) rfl rfl rfl rfl rfl (Nat.le_of_ble_eq_true rfl) rfl dX9_wonIn_10 rfl ?_
    refine r_if_eq dX9_wonIn_13 rfl rfl h (fun c h => ?_) (fun c h => ?_)
    · refine r_iinc 2 (fun x_6 => [(2, .int x_6), (0, .ref (xad X 0)), (1, .int x1)]) dX9_wonIn_18 rfl rfl ki_1 (show 2 < 3 by decide) (fun _ => rfl) h (fun x_6 h => ?_)
      refine r_goto dX9_wonIn_21 rfl ?_
      refine r_sub [1, 2, 0] rfl ?_
      exact hr2 σ4 x1 x_6 h
    · refine r_iload_n 2 dX9_wonIn_16 rfl rfl rfl ?_
      exact r_iret rfl dX9_wonIn_17 h hE
noncomputable def FX9_wonIn_2 (n : Nat) : Mem → Int32 → Int32 → Option (Int32 × Mem) :=
  Nat.rec (fun _ _ _ => none) (fun _ ih => BX9_wonIn_2 ih) n
theorem lX9_wonIn_2 {X : CX} {out : Int32 × Mem} (hE : Ends X SM (some (.int out.1)) out.2) : ∀ (n : Nat) (σ : Mem) (x1 : Int32) (x2 : Int32), FX9_wonIn_2 n σ x1 x2 = some out → J X SM mX9_wonIn σ 2 [(0, .ref (xad X 0)), (1, .int x1), (2, .int x2)] [] := by
  intro n
  induction n with
  | zero => intro σ x1 x2 h; exact nn h
  | succ n ih => intro σ x1 x2 h; exact jX9_wonIn_2 hE (FX9_wonIn_2 n) ih σ x1 x2 h
noncomputable def FX9_wonIn (σ : Mem) (a1 : Int32) : Option (Int32 × Mem) :=
  FX9_wonIn_2 FU σ a1 (1 : Int32)
set_option maxHeartbeats 4000000 in
set_option maxRecDepth 100000 in
theorem eX9_wonIn {X : CX} {out : Int32 × Mem} (hE : Ends X SM (some (.int out.1)) out.2) (σ : Mem) (a1 : Int32) (h : FX9_wonIn σ a1 = some out) : J X SM mX9_wonIn σ 0 [(0, .ref (xad X 0)), (1, .int a1)] [] := by
  refine r_iconst dX9_wonIn_0 rfl ki_1 ?_
  refine r_istoreV_n [(2, .int (1 : Int32)), (0, .ref (xad X 0)), (1, .int a1)] dX9_wonIn_1 rfl rfl (show 2 < 3 by decide) rfl ?_
  refine r_sub [1, 2, 0] rfl ?_
  exact lX9_wonIn_2 hE FU σ a1 (1 : Int32) h
theorem coX9_wonIn (σ : Mem) (a1 : Int32) (r : Int32) (σ2 : Mem) (h : FX9_wonIn σ a1 = some (r, σ2)) : Con SM 7 yX9_wonIn cX9_wonIn 3 (some .int) (fun ad => [.ref (ad 0), .int a1]) σ (fun _ => some (.int r)) σ2 :=
  con_of (by decide +kernel) (fun _ => Nat.le_of_ble_eq_true rfl) (fun X hE => eX9_wonIn (out := (r, σ2)) hE σ a1 h)

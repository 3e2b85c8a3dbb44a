-- IceYardModel readsYard
abbrev mX9_readsYard : MD := (cX9_readsYard, RX9, 4, (some .boolean), 3)
noncomputable def FX9_readsYard_126 (rl81 : Mem → Int32 → Int32 → Int32 → Option (Int32 × Mem)) (σ : Mem) (x1 : Int32) (x2 : Int32) (x3 : Int32) : Option (Int32 × Mem) :=
  bi (FX9_readsSign σ x1 x2 x3) fun r20 σ19 =>
  if r20 = 0 then
  (rz (0 : Int32) σ19)
  else
  (nm (x3 + (1 : Int32)) fun x_21 =>
  rl81 σ19 x1 x2 x_21)
set_option maxHeartbeats 4000000 in
set_option maxRecDepth 100000 in
theorem jX9_readsYard_126 {X : CX} {out : Int32 × Mem} (hE : Ends X SM (some (.int out.1)) out.2) (rl81 : Mem → Int32 → Int32 → Int32 → Option (Int32 × Mem)) (hr81 : ∀ (σ : Mem) (x1 : Int32) (x2 : Int32) (x3 : Int32), rl81 σ x1 x2 x3 = some out → J X SM mX9_readsYard σ 81 [(0, .ref (xad X 0)), (1, .int x1), (2, .int x2), (3, .int x3)] []) (σ : Mem) (x1 : Int32) (x2 : Int32) (x3 : Int32) (h : FX9_readsYard_126 rl81 σ x1 x2 x3 = some out) : J X SM mX9_readsYard σ 126 [(0, .ref (xad X 0)), (1, .int x1), (2, .int x2), (3, .int x3)] [] := by
  refine r_aload_n 0 dX9_readsYard_126 rfl rfl rfl ?_
  refine r_iload_n 1 dX9_readsYard_127 rfl rfl rfl ?_
  refine r_iload_n 2 dX9_readsYard_128 rfl rfl rfl ?_
  refine r_iload_n 3 dX9_readsYard_129 rfl rfl rfl ?_
  obtain ⟨r20, σ19, hc, h⟩ := bi_of h
  refine r_callV [.int x1, .int x2, .int x3] [] [.int r20]  (coX9_readsSign σ x1 x2 x3 r20 σ19 hc) mv_RX9_155 (by decide) rfl rfl rfl rfl rfl (Nat.le_of_ble_eq_true rfl) rfl dX9_readsYard_130 rfl ?_
  refine r_if_ne dX9_readsYard_133 rfl rfl h (fun c h => ?_) (fun c h => ?_)
  · refine r_iinc 3 (fun x_21 => [(3, .int x_21), (0, .ref (xad X 0)), (1, .int x1), (2, .int x2)]) dX9_readsYard_138 rfl rfl ki_1 (show 3 < 4 by decide) (fun _ => rfl) h (fun x_21 h => ?_)
    refine r_goto dX9_readsYard_141 rfl ?_
    refine r_sub [1, 2, 3, 0] rfl ?_
    exact hr81 σ19 x1 x2 x_21 h
  · refine r_iconst dX9_readsYard_136 rfl ki_0 ?_
    exact r_zret rfl dX9_readsYard_137 h hE
noncomputable def BX9_readsYard_81 (rl81 : Mem → Int32 → Int32 → Int32 → Option (Int32 × Mem)) (σ : Mem) (x1 : Int32) (x2 : Int32) (x3 : Int32) : Option (Int32 × Mem) :=
  if ((σ.1 0 15) * (σ.1 0 16)) ≤ x3 then
  (if (σ.1 0 9) = x2 then
  (rz (1 : Int32) σ)
  else
  (rz (0 : Int32) σ))
  else
  (dzI (σ.1 0 16) <|
  if (x3 - x3 / (σ.1 0 16) * (σ.1 0 16)) = 0 then
  (bi (FX9_codeAt σ x1 x2) fun r23 σ22 =>
  if r23 = (59 : Int32) then
  (nm (setI σ22 0 9 ((σ22.1 0 9) + (1 : Int32))) fun σ24 =>
  FX9_readsYard_126 rl81 σ24 x1 x2 x3)
  else
  (rz (0 : Int32) σ22))
  else
  (FX9_readsYard_126 rl81 σ x1 x2 x3))
set_option maxHeartbeats 4000000 in
set_option maxRecDepth 100000 in
theorem jX9_readsYard_81 {X : CX} {out : Int32 × Mem} (hE : Ends X SM (some (.int out.1)) out.2) (rl81 : Mem → Int32 → Int32 → Int32 → Option (Int32 × Mem)) (hr81 : ∀ (σ : Mem) (x1 : Int32) (x2 : Int32) (x3 : Int32), rl81 σ x1 x2 x3 = some out → J X SM mX9_readsYard σ 81 [(0, .ref (xad X 0)), (1, .int x1), (2, .int x2), (3, .int x3)] []) (σ : Mem) (x1 : Int32) (x2 : Int32) (x3 : Int32) (h : BX9_readsYard_81 rl81 σ x1 x2 x3 = some out) : J X SM mX9_readsYard σ 81 [(0, .ref (xad X 0)), (1, .int x1), (2, .int x2), (3, .int x3)] [] := by
  refine r_iload_n 3 dX9_readsYard_81 rfl rfl rfl ?_
  refine r_aload_n 0 dX9_readsYard_82 rfl rfl rfl ?_
  refine r_getI fg_RX9_149 rfl rfl dX9_readsYard_83 rfl ?_
  refine r_aload_n 0 dX9_readsYard_86 rfl rfl rfl ?_
  refine r_getI fg_RX9_152 rfl rfl dX9_readsYard_87 rfl ?_
  refine r_imul dX9_readsYard_90 rfl ?_
  refine r_icmp_ge dX9_readsYard_91 rfl rfl h (fun c h => ?_) (fun c h => ?_)
  · refine r_aload_n 0 dX9_readsYard_144 rfl rfl rfl ?_
    refine r_getI fg_RX9_121 rfl rfl dX9_readsYard_145 rfl ?_
    refine r_iload_n 2 dX9_readsYard_148 rfl rfl rfl ?_
    refine r_icmp_ne dX9_readsYard_149 rfl rfl h (fun c h => ?_) (fun c h => ?_)
    · refine r_iconst dX9_readsYard_156 rfl ki_0 ?_
      exact r_zret rfl dX9_readsYard_157 h hE
    · refine r_iconst dX9_readsYard_152 rfl ki_1 ?_
      refine r_goto dX9_readsYard_153 rfl ?_
      exact r_zret rfl dX9_readsYard_157 h hE
  · refine r_iload_n 3 dX9_readsYard_94 rfl rfl rfl ?_
    refine r_aload_n 0 dX9_readsYard_95 rfl rfl rfl ?_
    refine r_getI fg_RX9_152 rfl rfl dX9_readsYard_96 rfl ?_
    refine r_irem dX9_readsYard_99 rfl h (fun h => ?_)
    refine r_if_ne dX9_readsYard_100 rfl rfl h (fun c h => ?_) (fun c h => ?_)
    · exact jX9_readsYard_126 hE rl81 hr81 σ x1 x2 x3 h
    · refine r_aload_n 0 dX9_readsYard_103 rfl rfl rfl ?_
      refine r_iload_n 1 dX9_readsYard_104 rfl rfl rfl ?_
      refine r_iload_n 2 dX9_readsYard_105 rfl rfl rfl ?_
      obtain ⟨r23, σ22, hc, h⟩ := bi_of h
      refine r_callV [.int x1, .int x2] [] [.int r23]  (coX9_codeAt σ x1 x2 r23 σ22 hc) mv_RX9_124 (by decide) rfl rfl rfl rfl rfl (Nat.le_of_ble_eq_true rfl) rfl dX9_readsYard_106 rfl ?_
      refine r_bipush dX9_readsYard_109 rfl kb_59 ?_
      refine r_icmp_eq dX9_readsYard_111 rfl rfl h (fun c h => ?_) (fun c h => ?_)
      · refine r_aload_n 0 dX9_readsYard_116 rfl rfl rfl ?_
        refine r_dup dX9_readsYard_117 rfl rfl ?_
        refine r_getI fg_RX9_121 rfl rfl dX9_readsYard_118 rfl ?_
        refine r_iconst dX9_readsYard_121 rfl ki_1 ?_
        refine r_iadd dX9_readsYard_122 rfl ?_
        refine r_putI fp_RX9_121 rfl rfl dX9_readsYard_123 rfl h (fun σ24 h => ?_)
        exact jX9_readsYard_126 hE rl81 hr81 σ24 x1 x2 x3 h
      · refine r_iconst dX9_readsYard_114 rfl ki_0 ?_
        exact r_zret rfl dX9_readsYard_115 h hE
noncomputable def FX9_readsYard_81 (n : Nat) : Mem → Int32 → Int32 → Int32 → Option (Int32 × Mem) :=
  Nat.rec (fun _ _ _ _ => none) (fun _ ih => BX9_readsYard_81 ih) n
theorem lX9_readsYard_81 {X : CX} {out : Int32 × Mem} (hE : Ends X SM (some (.int out.1)) out.2) : ∀ (n : Nat) (σ : Mem) (x1 : Int32) (x2 : Int32) (x3 : Int32), FX9_readsYard_81 n σ x1 x2 x3 = some out → J X SM mX9_readsYard σ 81 [(0, .ref (xad X 0)), (1, .int x1), (2, .int x2), (3, .int x3)] [] := by
  intro n
  induction n with
  | zero => intro σ x1 x2 x3 h; exact nn h
  | succ n ih => intro σ x1 x2 x3 h; exact jX9_readsYard_81 hE (FX9_readsYard_81 n) ih σ x1 x2 x3 h
noncomputable def FX9_readsYard_67 (σ : Mem) (x1 : Int32) (x2 : Int32) (s0 : Int32) : Option (Int32 × Mem) :=
  nm (setI σ 0 16 s0) fun σ25 =>
  if 0 ≤ (σ25.1 0 16) then
  (FX9_readsYard_81 FU σ25 x1 x2 (0 : Int32))
  else
  (rz (0 : Int32) σ25)
set_option maxHeartbeats 4000000 in
set_option maxRecDepth 100000 in
theorem jX9_readsYard_67 {X : CX} {out : Int32 × Mem} (hE : Ends X SM (some (.int out.1)) out.2) (σ : Mem) (x1 : Int32) (x2 : Int32) (s0 : Int32) (h : FX9_readsYard_67 σ x1 x2 s0 = some out) : J X SM mX9_readsYard σ 67 [(0, .ref (xad X 0)), (1, .int x1), (2, .int x2)] [.int s0, .ref (xad X 0)] := by
  refine r_putI fp_RX9_152 rfl rfl dX9_readsYard_67 rfl h (fun σ25 h => ?_)
  refine r_aload_n 0 dX9_readsYard_70 rfl rfl rfl ?_
  refine r_getI fg_RX9_152 rfl rfl dX9_readsYard_71 rfl ?_
  refine r_if_ge dX9_readsYard_74 rfl rfl h (fun c h => ?_) (fun c h => ?_)
  · refine r_iconst dX9_readsYard_79 rfl ki_0 ?_
    refine r_istoreV_n [(3, .int (0 : Int32)), (0, .ref (xad X 0)), (1, .int x1), (2, .int x2)] dX9_readsYard_80 rfl rfl (show 3 < 4 by decide) rfl ?_
    refine r_sub [1, 2, 3, 0] rfl ?_
    exact lX9_readsYard_81 hE FU σ25 x1 x2 (0 : Int32) h
  · refine r_iconst dX9_readsYard_77 rfl ki_0 ?_
    exact r_zret rfl dX9_readsYard_78 h hE
noncomputable def FX9_readsYard (σ : Mem) (a1 : Int32) (a2 : Int32) : Option (Int32 × Mem) :=
  nm (setI σ 0 9 (0 : Int32)) fun σ26 =>
  nm (setI σ26 0 10 (0 : Int32)) fun σ27 =>
  nm (setI σ27 0 11 (0 : Int32)) fun σ28 =>
  bi (FX9_codeAt σ28 a1 a2) fun r30 σ29 =>
  if r30 = (105 : Int32) then
  (nm (setI σ29 0 9 ((σ29.1 0 9) + (1 : Int32))) fun σ31 =>
  bi (FX9_figure σ31 a1 a2) fun r33 σ32 =>
  nm (setI σ32 0 15 r33) fun σ34 =>
  if 0 ≤ (σ34.1 0 15) then
  (bi (FX9_figure σ34 a1 a2) fun r36 σ35 =>
  FX9_readsYard_67 σ35 a1 a2 r36)
  else
  (FX9_readsYard_67 σ34 a1 a2 (-9 : Int32)))
  else
  (rz (0 : Int32) σ29)
set_option maxHeartbeats 4000000 in
set_option maxRecDepth 100000 in
theorem eX9_readsYard {X : CX} {out : Int32 × Mem} (hE : Ends X SM (some (.int out.1)) out.2) (σ : Mem) (a1 : Int32) (a2 : Int32) (h : FX9_readsYard σ a1 a2 = some out) : J X SM mX9_readsYard σ 0 [(0, .ref (xad X 0)), (1, .int a1), (2, .int a2)] [] := by
  refine r_aload_n 0 dX9_readsYard_0 rfl rfl rfl ?_
  refine r_iconst dX9_readsYard_1 rfl ki_0 ?_
  refine r_putI fp_RX9_121 rfl rfl dX9_readsYard_2 rfl h (fun σ26 h => ?_)
  refine r_aload_n 0 dX9_readsYard_5 rfl rfl rfl ?_
  refine r_iconst dX9_readsYard_6 rfl ki_0 ?_
  refine r_putI fp_RX9_135 rfl rfl dX9_readsYard_7 rfl h (fun σ27 h => ?_)
  refine r_aload_n 0 dX9_readsYard_10 rfl rfl rfl ?_
  refine r_iconst dX9_readsYard_11 rfl ki_0 ?_
  refine r_putI fp_RX9_132 rfl rfl dX9_readsYard_12 rfl h (fun σ28 h => ?_)
  refine r_aload_n 0 dX9_readsYard_15 rfl rfl rfl ?_
  refine r_iload_n 1 dX9_readsYard_16 rfl rfl rfl ?_
  refine r_iload_n 2 dX9_readsYard_17 rfl rfl rfl ?_
  obtain ⟨r30, σ29, hc, h⟩ := bi_of h
  refine r_callV [.int a1, .int a2] [] [.int r30]  (coX9_codeAt σ28 a1 a2 r30 σ29 hc) mv_RX9_124 (by decide) rfl rfl rfl rfl rfl (Nat.le_of_ble_eq_true rfl) rfl dX9_readsYard_18 rfl ?_
  refine r_bipush dX9_readsYard_21 rfl kb_105 ?_
  refine r_icmp_eq dX9_readsYard_23 rfl rfl h (fun c h => ?_) (fun c h => ?_)
  · refine r_aload_n 0 dX9_readsYard_28 rfl rfl rfl ?_
    refine r_dup dX9_readsYard_29 rfl rfl ?_
    refine r_getI fg_RX9_121 rfl rfl dX9_readsYard_30 rfl ?_
    refine r_iconst dX9_readsYard_33 rfl ki_1 ?_
    refine r_iadd dX9_readsYard_34 rfl ?_
    refine r_putI fp_RX9_121 rfl rfl dX9_readsYard_35 rfl h (fun σ31 h => ?_)
    refine r_aload_n 0 dX9_readsYard_38 rfl rfl rfl ?_
    refine r_aload_n 0 dX9_readsYard_39 rfl rfl rfl ?_
    refine r_iload_n 1 dX9_readsYard_40 rfl rfl rfl ?_
    refine r_iload_n 2 dX9_readsYard_41 rfl rfl rfl ?_
    obtain ⟨r33, σ32, hc, h⟩ := bi_of h
    refine r_callV [.int a1, .int a2] [.ref (xad X 0)] [.int r33, .ref (xad X 0)]  (coX9_figure σ31 a1 a2 r33 σ32 hc) mv_RX9_146 (by decide) rfl rfl rfl rfl rfl (Nat.le_of_ble_eq_true rfl) rfl dX9_readsYard_42 rfl ?_
    refine r_putI fp_RX9_149 rfl rfl dX9_readsYard_45 rfl h (fun σ34 h => ?_)
    refine r_aload_n 0 dX9_readsYard_48 rfl rfl rfl ?_
    refine r_aload_n 0 dX9_readsYard_49 rfl rfl rfl ?_
    refine r_getI fg_RX9_149 rfl rfl dX9_readsYard_50 rfl ?_
    refine r_if_ge dX9_readsYard_53 rfl rfl h (fun c h => ?_) (fun c h => ?_)
    · refine r_aload_n 0 dX9_readsYard_61 rfl rfl rfl ?_
      refine r_iload_n 1 dX9_readsYard_62 rfl rfl rfl ?_
      refine r_iload_n 2 dX9_readsYard_63 rfl rfl rfl ?_
      obtain ⟨r36, σ35, hc, h⟩ := bi_of h
      refine r_callV [.int a1, .int a2] [.ref (xad X 0)] [.int r36, .ref (xad X 0)]  (coX9_figure σ34 a1 a2 r36 σ35 hc) mv_RX9_146 (by decide) rfl rfl rfl rfl rfl (Nat.le_of_ble_eq_true rfl) rfl dX9_readsYard_64 rfl ?_
      exact jX9_readsYard_67 hE σ35 a1 a2 r36 h
    · refine r_bipush dX9_readsYard_56 rfl kb_m9 ?_
      refine r_goto dX9_readsYard_58 rfl ?_
      exact jX9_readsYard_67 hE σ34 a1 a2 (-9 : Int32) h
  · refine r_iconst dX9_readsYard_26 rfl ki_0 ?_
    exact r_zret rfl dX9_readsYard_27 h hE
theorem coX9_readsYard (σ : Mem) (a1 : Int32) (a2 : Int32) (r : Int32) (σ2 : Mem) (h : FX9_readsYard σ a1 a2 = some (r, σ2)) : Con SM 3 yX9_readsYard cX9_readsYard 4 (some .boolean) (fun ad => [.ref (ad 0), .int a1, .int a2]) σ (fun _ => some (.int r)) σ2 :=
  con_of (by decide +kernel) (fun _ => Nat.le_of_ble_eq_true rfl) (fun X hE => eX9_readsYard (out := (r, σ2)) hE σ a1 a2 h)
-- IceYardModel rows
abbrev mX9_rows : MD := (cX9_rows, RX9, 9, (some .int), 6)
noncomputable def BX9_rows_131 (rl90 : Mem → Int32 → Int64 → Int32 → Int32 → Int32 → Int32 → Option (Int32 × Mem)) (rl131 : Mem → Int32 → Int64 → Int32 → Int32 → Int32 → Int32 → Int32 → Option (Int32 × Mem)) (σ : Mem) (x1 : Int32) (x2 : Int64) (x4 : Int32) (x5 : Int32) (x6 : Int32) (x7 : Int32) (x8 : Int32) : Option (Int32 × Mem) :=
  if x1 ≤ x8 then
  (nm (x6 + (1 : Int32)) fun x_26 =>
  nm (x7 + (1 : Int32)) fun x_27 =>
  rl90 σ x1 x2 x4 x5 x_26 x_27)
  else
  (rd x8 4 fun j28 =>
  stI σ 27 4 x8 (σ.1 26 j28) fun σ29 =>
  nm (x8 + (1 : Int32)) fun x_30 =>
  rl131 σ29 x1 x2 x4 x5 x6 x7 x_30)
set_option maxHeartbeats 4000000 in
set_option maxRecDepth 100000 in
theorem jX9_rows_131 {X : CX} {out : Int32 × Mem} (hE : Ends X SM (some (.int out.1)) out.2) (rl90 : Mem → Int32 → Int64 → Int32 → Int32 → Int32 → Int32 → Option (Int32 × Mem)) (hr90 : ∀ (σ : Mem) (x1 : Int32) (x2 : Int64) (x4 : Int32) (x5 : Int32) (x6 : Int32) (x7 : Int32), rl90 σ x1 x2 x4 x5 x6 x7 = some out → J X SM mX9_rows σ 90 [(0, .ref (xad X 0)), (1, .int x1), (2, .long x2), (4, .int x4), (5, .int x5), (6, .int x6), (7, .int x7)] []) (rl131 : Mem → Int32 → Int64 → Int32 → Int32 → Int32 → Int32 → Int32 → Option (Int32 × Mem)) (hr131 : ∀ (σ : Mem) (x1 : Int32) (x2 : Int64) (x4 : Int32) (x5 : Int32) (x6 : Int32) (x7 : Int32) (x8 : Int32), rl131 σ x1 x2 x4 x5 x6 x7 x8 = some out → J X SM mX9_rows σ 131 [(0, .ref (xad X 0)), (1, .int x1), (2, .long x2), (4, .int x4), (5, .int x5), (6, .int x6), (7, .int x7), (8, .int x8)] []) (σ : Mem) (x1 : Int32) (x2 : Int64) (x4 : Int32) (x5 : Int32) (x6 : Int32) (x7 : Int32) (x8 : Int32) (h : BX9_rows_131 rl90 rl131 σ x1 x2 x4 x5 x6 x7 x8 = some out) : J X SM mX9_rows σ 131 [(0, .ref (xad X 0)), (1, .int x1), (2, .long x2), (4, .int x4), (5, .int x5), (6, .int x6), (7, .int x7), (8, .int x8)] [] := by
  refine r_iload 7 dX9_rows_131 rfl rfl ?_
  refine r_iload_n 1 dX9_rows_133 rfl rfl rfl ?_
  refine r_icmp_ge dX9_rows_134 rfl rfl h (fun c h => ?_) (fun c h => ?_)
  · refine r_iinc 5 (fun x_26 => [(6, .int x_26), (0, .ref (xad X 0)), (1, .int x1), (2, .long x2), (4, .int x4), (5, .int x5), (7, .int x7), (8, .int x8)]) dX9_rows_157 rfl rfl ki_1 (show 6 < 9 by decide) (fun _ => rfl) h (fun x_26 h => ?_)
    refine r_iinc 6 (fun x_27 => [(7, .int x_27), (6, .int x_26), (0, .ref (xad X 0)), (1, .int x1), (2, .long x2), (4, .int x4), (5, .int x5), (8, .int x8)]) dX9_rows_160 rfl rfl ki_1 (show 7 < 9 by decide) (fun _ => rfl) h (fun x_27 h => ?_)
    refine r_goto dX9_rows_163 rfl ?_
    refine r_sub [2, 3, 4, 5, 6, 1, 0] rfl ?_
    exact hr90 σ x1 x2 x4 x5 x_26 x_27 h
  · refine r_aload_n 0 dX9_rows_137 rfl rfl rfl ?_
    refine r_getR fg_RX9_90 rfl rfl dX9_rows_138 rfl ?_
    refine r_iload 7 dX9_rows_141 rfl rfl ?_
    refine r_aload_n 0 dX9_rows_143 rfl rfl rfl ?_
    refine r_getR fg_RX9_87 rfl rfl dX9_rows_144 rfl ?_
    refine r_iload 7 dX9_rows_147 rfl rfl ?_
    refine r_iald rfl dX9_rows_149 rfl h (fun j28 h => ?_)
    refine r_iast rfl dX9_rows_150 rfl h (fun σ29 h => ?_)
    refine r_iinc 7 (fun x_30 => [(8, .int x_30), (0, .ref (xad X 0)), (1, .int x1), (2, .long x2), (4, .int x4), (5, .int x5), (6, .int x6), (7, .int x7)]) dX9_rows_151 rfl rfl ki_1 (show 8 < 9 by decide) (fun _ => rfl) h (fun x_30 h => ?_)
    refine r_goto dX9_rows_154 rfl ?_
    refine r_sub [1, 2, 3, 4, 5, 6, 7, 0] rfl ?_
    exact hr131 σ29 x1 x2 x4 x5 x6 x7 x_30 h
noncomputable def FX9_rows_131 (rl90 : Mem → Int32 → Int64 → Int32 → Int32 → Int32 → Int32 → Option (Int32 × Mem)) (n : Nat) : Mem → Int32 → Int64 → Int32 → Int32 → Int32 → Int32 → Int32 → Option (Int32 × Mem) :=
  Nat.rec (fun _ _ _ _ _ _ _ _ => none) (fun _ ih => BX9_rows_131 rl90 ih) n
theorem lX9_rows_131 {X : CX} {out : Int32 × Mem} (hE : Ends X SM (some (.int out.1)) out.2) (rl90 : Mem → Int32 → Int64 → Int32 → Int32 → Int32 → Int32 → Option (Int32 × Mem)) (hr90 : ∀ (σ : Mem) (x1 : Int32) (x2 : Int64) (x4 : Int32) (x5 : Int32) (x6 : Int32) (x7 : Int32), rl90 σ x1 x2 x4 x5 x6 x7 = some out → J X SM mX9_rows σ 90 [(0, .ref (xad X 0)), (1, .int x1), (2, .long x2), (4, .int x4), (5, .int x5), (6, .int x6), (7, .int x7)] []) : ∀ (n : Nat) (σ : Mem) (x1 : Int32) (x2 : Int64) (x4 : Int32) (x5 : Int32) (x6 : Int32) (x7 : Int32) (x8 : Int32), FX9_rows_131 rl90 n σ x1 x2 x4 x5 x6 x7 x8 = some out → J X SM mX9_rows σ 131 [(0, .ref (xad X 0)), (1, .int x1), (2, .long x2), (4, .int x4), (5, .int x5), (6, .int x6), (7, .int x7), (8, .int x8)] [] := by
  intro n
  induction n with
  | zero => intro σ x1 x2 x4 x5 x6 x7 x8 h; exact nn h
  | succ n ih => intro σ x1 x2 x4 x5 x6 x7 x8 h; exact jX9_rows_131 hE rl90 hr90 (FX9_rows_131 rl90 n) ih σ x1 x2 x4 x5 x6 x7 x8 h
noncomputable def BX9_rows_90 (rl90 : Mem → Int32 → Int64 → Int32 → Int32 → Int32 → Int32 → Option (Int32 × Mem)) (σ : Mem) (x1 : Int32) (x2 : Int64) (x4 : Int32) (x5 : Int32) (x6 : Int32) (x7 : Int32) : Option (Int32 × Mem) :=
  if x5 ≤ x7 then
  (bv (FX9_give σ (0 : Int32)) fun σ31 =>
  if 0 ≤ x4 then
  (if x6 = 0 then
  (some ((-9 : Int32), σ31))
  else
  (rd x4 4 fun j32 =>
  dzI (4 : Int32) <|
  rd x4 4 fun j33 =>
  dzI (4 : Int32) <|
  some ((((10 : Int32) * ((σ31.1 27 j32) / (4 : Int32))) + ((σ31.1 27 j33) - (σ31.1 27 j33) / (4 : Int32) * (4 : Int32))), σ31)))
  else
  (some (x6, σ31)))
  else
  (bv (FX9_give σ (0 : Int32)) fun σ34 =>
  bi (FX9_goRow σ34 x7 x1) fun r36 σ35 =>
  if r36 = 0 then
  (nm (x7 + (1 : Int32)) fun x_37 =>
  rl90 σ35 x1 x2 x4 x5 x6 x_37)
  else
  (rd (0 : Int32) 4 fun j38 =>
  if (lg_cmp (σ35.2 25 j38) x2) = 0 then
  (if x6 = 0 then
  (FX9_rows_131 rl90 FU σ35 x1 x2 x4 x5 x6 x7 (0 : Int32))
  else
  (nm (x6 + (1 : Int32)) fun x_40 =>
  nm (x7 + (1 : Int32)) fun x_41 =>
  rl90 σ35 x1 x2 x4 x5 x_40 x_41))
  else
  (nm (x7 + (1 : Int32)) fun x_39 =>
  rl90 σ35 x1 x2 x4 x5 x6 x_39)))
set_option maxHeartbeats 4000000 in
set_option maxRecDepth 100000 in
theorem jX9_rows_90 {X : CX} {out : Int32 × Mem} (hE : Ends X SM (some (.int out.1)) out.2) (rl90 : Mem → Int32 → Int64 → Int32 → Int32 → Int32 → Int32 → Option (Int32 × Mem)) (hr90 : ∀ (σ : Mem) (x1 : Int32) (x2 : Int64) (x4 : Int32) (x5 : Int32) (x6 : Int32) (x7 : Int32), rl90 σ x1 x2 x4 x5 x6 x7 = some out → J X SM mX9_rows σ 90 [(0, .ref (xad X 0)), (1, .int x1), (2, .long x2), (4, .int x4), (5, .int x5), (6, .int x6), (7, .int x7)] []) (σ : Mem) (x1 : Int32) (x2 : Int64) (x4 : Int32) (x5 : Int32) (x6 : Int32) (x7 : Int32) (h : BX9_rows_90 rl90 σ x1 x2 x4 x5 x6 x7 = some out) : J X SM mX9_rows σ 90 [(0, .ref (xad X 0)), (1, .int x1), (2, .long x2), (4, .int x4), (5, .int x5), (6, .int x6), (7, .int x7)] [] := by
  refine r_iload 6 dX9_rows_90 rfl rfl ?_
  refine r_iload 4 dX9_rows_92 rfl rfl ?_
  refine r_icmp_ge dX9_rows_94 rfl rfl h (fun c h => ?_) (fun c h => ?_)
  · refine r_aload_n 0 dX9_rows_166 rfl rfl rfl ?_
    refine r_iconst dX9_rows_167 rfl ki_0 ?_
    obtain ⟨σ31, hc, h⟩ := bv_of h
    refine r_callV [.int (0 : Int32)] [] []  (coX9_give σ (0 : Int32) σ31 hc) mv_RX9_227 (by decide) rfl rfl rfl rfl rfl (Nat.le_of_ble_eq_true rfl) rfl dX9_rows_168 rfl ?_
    refine r_iload 3 dX9_rows_171 rfl rfl ?_
    refine r_if_ge dX9_rows_173 rfl rfl h (fun c h => ?_) (fun c h => ?_)
    · refine r_iload 5 dX9_rows_181 rfl rfl ?_
      refine r_if_ne dX9_rows_183 rfl rfl h (fun c h => ?_) (fun c h => ?_)
      · refine r_bipush dX9_rows_191 rfl kb_10 ?_
        refine r_aload_n 0 dX9_rows_193 rfl rfl rfl ?_
        refine r_getR fg_RX9_90 rfl rfl dX9_rows_194 rfl ?_
        refine r_iload 3 dX9_rows_197 rfl rfl ?_
        refine r_iald rfl dX9_rows_199 rfl h (fun j32 h => ?_)
        refine r_iconst dX9_rows_200 rfl ki_4 ?_
        refine r_idiv dX9_rows_201 rfl h (fun h => ?_)
        refine r_imul dX9_rows_202 rfl ?_
        refine r_aload_n 0 dX9_rows_203 rfl rfl rfl ?_
        refine r_getR fg_RX9_90 rfl rfl dX9_rows_204 rfl ?_
        refine r_iload 3 dX9_rows_207 rfl rfl ?_
        refine r_iald rfl dX9_rows_209 rfl h (fun j33 h => ?_)
        refine r_iconst dX9_rows_210 rfl ki_4 ?_
        refine r_irem dX9_rows_211 rfl h (fun h => ?_)
        refine r_iadd dX9_rows_212 rfl ?_
        exact r_iret rfl dX9_rows_213 h hE
      · refine r_bipush dX9_rows_186 rfl kb_m9 ?_
        refine r_goto dX9_rows_188 rfl ?_
        exact r_iret rfl dX9_rows_213 h hE
    · refine r_iload 5 dX9_rows_176 rfl rfl ?_
      refine r_goto dX9_rows_178 rfl ?_
      exact r_iret rfl dX9_rows_213 h hE
  · refine r_aload_n 0 dX9_rows_97 rfl rfl rfl ?_
    refine r_iconst dX9_rows_98 rfl ki_0 ?_
    obtain ⟨σ34, hc, h⟩ := bv_of h
    refine r_callV [.int (0 : Int32)] [] []  (coX9_give σ (0 : Int32) σ34 hc) mv_RX9_227 (by decide) rfl rfl rfl rfl rfl (Nat.le_of_ble_eq_true rfl) rfl dX9_rows_99 rfl ?_
    refine r_aload_n 0 dX9_rows_102 rfl rfl rfl ?_
    refine r_iload 6 dX9_rows_103 rfl rfl ?_
    refine r_iload_n 1 dX9_rows_105 rfl rfl rfl ?_
    obtain ⟨r36, σ35, hc, h⟩ := bi_of h
    refine r_callV [.int x7, .int x1] [] [.int r36]  (coX9_goRow σ34 x7 x1 r36 σ35 hc) mv_RX9_299 (by decide) rfl rfl rfl rfl rfl (Nat.le_of_ble_eq_true rfl) rfl dX9_rows_106 rfl ?_
    refine r_if_eq dX9_rows_109 rfl rfl h (fun c h => ?_) (fun c h => ?_)
    · refine r_iinc 6 (fun x_37 => [(7, .int x_37), (0, .ref (xad X 0)), (1, .int x1), (2, .long x2), (4, .int x4), (5, .int x5), (6, .int x6)]) dX9_rows_160 rfl rfl ki_1 (show 7 < 9 by decide) (fun _ => rfl) h (fun x_37 h => ?_)
      refine r_goto dX9_rows_163 rfl ?_
      refine r_sub [1, 2, 3, 4, 5, 6, 0] rfl ?_
      exact hr90 σ35 x1 x2 x4 x5 x6 x_37 h
    · refine r_aload_n 0 dX9_rows_112 rfl rfl rfl ?_
      refine r_getR fg_RX9_84 rfl rfl dX9_rows_113 rfl ?_
      refine r_iconst dX9_rows_116 rfl ki_0 ?_
      refine r_lald rfl dX9_rows_117 rfl h (fun j38 h => ?_)
      refine r_lload_n 2 dX9_rows_118 rfl rfl rfl ?_
      refine r_lcmp dX9_rows_119 rfl ?_
      refine r_if_ne dX9_rows_120 rfl rfl h (fun c h => ?_) (fun c h => ?_)
      · refine r_iinc 6 (fun x_39 => [(7, .int x_39), (0, .ref (xad X 0)), (1, .int x1), (2, .long x2), (4, .int x4), (5, .int x5), (6, .int x6)]) dX9_rows_160 rfl rfl ki_1 (show 7 < 9 by decide) (fun _ => rfl) h (fun x_39 h => ?_)
        refine r_goto dX9_rows_163 rfl ?_
        refine r_sub [1, 2, 3, 4, 5, 6, 0] rfl ?_
        exact hr90 σ35 x1 x2 x4 x5 x6 x_39 h
      · refine r_iload 5 dX9_rows_123 rfl rfl ?_
        refine r_if_ne dX9_rows_125 rfl rfl h (fun c h => ?_) (fun c h => ?_)
        · refine r_iinc 5 (fun x_40 => [(6, .int x_40), (0, .ref (xad X 0)), (1, .int x1), (2, .long x2), (4, .int x4), (5, .int x5), (7, .int x7)]) dX9_rows_157 rfl rfl ki_1 (show 6 < 9 by decide) (fun _ => rfl) h (fun x_40 h => ?_)
          refine r_iinc 6 (fun x_41 => [(7, .int x_41), (6, .int x_40), (0, .ref (xad X 0)), (1, .int x1), (2, .long x2), (4, .int x4), (5, .int x5)]) dX9_rows_160 rfl rfl ki_1 (show 7 < 9 by decide) (fun _ => rfl) h (fun x_41 h => ?_)
          refine r_goto dX9_rows_163 rfl ?_
          refine r_sub [2, 3, 4, 5, 6, 1, 0] rfl ?_
          exact hr90 σ35 x1 x2 x4 x5 x_40 x_41 h
        · refine r_iconst dX9_rows_128 rfl ki_0 ?_
          refine r_istoreV [(8, .int (0 : Int32)), (0, .ref (xad X 0)), (1, .int x1), (2, .long x2), (4, .int x4), (5, .int x5), (6, .int x6), (7, .int x7)] dX9_rows_129 rfl (show 8 < 9 by decide) rfl ?_
          refine r_sub [1, 2, 3, 4, 5, 6, 7, 0] rfl ?_
          exact lX9_rows_131 hE rl90 hr90 FU σ35 x1 x2 x4 x5 x6 x7 (0 : Int32) h
noncomputable def FX9_rows_90 (n : Nat) : Mem → Int32 → Int64 → Int32 → Int32 → Int32 → Int32 → Option (Int32 × Mem) :=
  Nat.rec (fun _ _ _ _ _ _ _ => none) (fun _ ih => BX9_rows_90 ih) n
theorem lX9_rows_90 {X : CX} {out : Int32 × Mem} (hE : Ends X SM (some (.int out.1)) out.2) : ∀ (n : Nat) (σ : Mem) (x1 : Int32) (x2 : Int64) (x4 : Int32) (x5 : Int32) (x6 : Int32) (x7 : Int32), FX9_rows_90 n σ x1 x2 x4 x5 x6 x7 = some out → J X SM mX9_rows σ 90 [(0, .ref (xad X 0)), (1, .int x1), (2, .long x2), (4, .int x4), (5, .int x5), (6, .int x6), (7, .int x7)] [] := by
  intro n
  induction n with
  | zero => intro σ x1 x2 x4 x5 x6 x7 h; exact nn h
  | succ n ih => intro σ x1 x2 x4 x5 x6 x7 h; exact jX9_rows_90 hE (FX9_rows_90 n) ih σ x1 x2 x4 x5 x6 x7 h
noncomputable def BX9_rows_56 (rl56 : Mem → Int32 → Int64 → Int32 → Int32 → Int32 → Option (Int32 × Mem)) (σ : Mem) (x1 : Int32) (x2 : Int64) (x4 : Int32) (x5 : Int32) (x6 : Int32) : Option (Int32 × Mem) :=
  if x1 ≤ x6 then
  (bv (FX9_hold σ (0 : Int32)) fun σ42 =>
  FX9_rows_90 FU σ42 x1 x2 x4 x5 (0 : Int32) (0 : Int32))
  else
  (nm (x5 * ((4 : Int32) * (σ.1 0 3))) fun x_43 =>
  nm (x6 + (1 : Int32)) fun x_44 =>
  rl56 σ x1 x2 x4 x_43 x_44)
set_option maxHeartbeats 4000000 in
set_option maxRecDepth 100000 in
theorem jX9_rows_56 {X : CX} {out : Int32 × Mem} (hE : Ends X SM (some (.int out.1)) out.2) (rl56 : Mem → Int32 → Int64 → Int32 → Int32 → Int32 → Option (Int32 × Mem)) (hr56 : ∀ (σ : Mem) (x1 : Int32) (x2 : Int64) (x4 : Int32) (x5 : Int32) (x6 : Int32), rl56 σ x1 x2 x4 x5 x6 = some out → J X SM mX9_rows σ 56 [(0, .ref (xad X 0)), (1, .int x1), (2, .long x2), (4, .int x4), (5, .int x5), (6, .int x6)] []) (σ : Mem) (x1 : Int32) (x2 : Int64) (x4 : Int32) (x5 : Int32) (x6 : Int32) (h : BX9_rows_56 rl56 σ x1 x2 x4 x5 x6 = some out) : J X SM mX9_rows σ 56 [(0, .ref (xad X 0)), (1, .int x1), (2, .long x2), (4, .int x4), (5, .int x5), (6, .int x6)] [] := by
  refine r_iload 5 dX9_rows_56 rfl rfl ?_
  refine r_iload_n 1 dX9_rows_58 rfl rfl rfl ?_
  refine r_icmp_ge dX9_rows_59 rfl rfl h (fun c h => ?_) (fun c h => ?_)
  · refine r_aload_n 0 dX9_rows_79 rfl rfl rfl ?_
    refine r_iconst dX9_rows_80 rfl ki_0 ?_
    obtain ⟨σ42, hc, h⟩ := bv_of h
    refine r_callV [.int (0 : Int32)] [] []  (coX9_hold σ (0 : Int32) σ42 hc) mv_RX9_217 (by decide) rfl rfl rfl rfl rfl (Nat.le_of_ble_eq_true rfl) rfl dX9_rows_81 rfl ?_
    refine r_iconst dX9_rows_84 rfl ki_0 ?_
    refine r_istoreV [(6, .int (0 : Int32)), (0, .ref (xad X 0)), (1, .int x1), (2, .long x2), (4, .int x4), (5, .int x5)] dX9_rows_85 rfl (show 6 < 9 by decide) rfl ?_
    refine r_iconst dX9_rows_87 rfl ki_0 ?_
    refine r_istoreV [(7, .int (0 : Int32)), (6, .int (0 : Int32)), (0, .ref (xad X 0)), (1, .int x1), (2, .long x2), (4, .int x4), (5, .int x5)] dX9_rows_88 rfl (show 7 < 9 by decide) rfl ?_
    refine r_sub [2, 3, 4, 5, 6, 1, 0] rfl ?_
    exact lX9_rows_90 hE FU σ42 x1 x2 x4 x5 (0 : Int32) (0 : Int32) h
  · refine r_iload 4 dX9_rows_62 rfl rfl ?_
    refine r_iconst dX9_rows_64 rfl ki_4 ?_
    refine r_aload_n 0 dX9_rows_65 rfl rfl rfl ?_
    refine r_getI fg_RX9_179 rfl rfl dX9_rows_66 rfl ?_
    refine r_imul dX9_rows_69 rfl ?_
    refine r_imul dX9_rows_70 rfl ?_
    refine r_istore (fun x_43 => [(5, .int x_43), (0, .ref (xad X 0)), (1, .int x1), (2, .long x2), (4, .int x4), (6, .int x6)]) dX9_rows_71 rfl (show 5 < 9 by decide) (fun _ => rfl) h (fun x_43 h => ?_)
    refine r_iinc 5 (fun x_44 => [(6, .int x_44), (5, .int x_43), (0, .ref (xad X 0)), (1, .int x1), (2, .long x2), (4, .int x4)]) dX9_rows_73 rfl rfl ki_1 (show 6 < 9 by decide) (fun _ => rfl) h (fun x_44 h => ?_)
    refine r_goto dX9_rows_76 rfl ?_
    refine r_sub [2, 3, 4, 5, 1, 0] rfl ?_
    exact hr56 σ x1 x2 x4 x_43 x_44 h
noncomputable def FX9_rows_56 (n : Nat) : Mem → Int32 → Int64 → Int32 → Int32 → Int32 → Option (Int32 × Mem) :=
  Nat.rec (fun _ _ _ _ _ _ => none) (fun _ ih => BX9_rows_56 ih) n
theorem lX9_rows_56 {X : CX} {out : Int32 × Mem} (hE : Ends X SM (some (.int out.1)) out.2) : ∀ (n : Nat) (σ : Mem) (x1 : Int32) (x2 : Int64) (x4 : Int32) (x5 : Int32) (x6 : Int32), FX9_rows_56 n σ x1 x2 x4 x5 x6 = some out → J X SM mX9_rows σ 56 [(0, .ref (xad X 0)), (1, .int x1), (2, .long x2), (4, .int x4), (5, .int x5), (6, .int x6)] [] := by
  intro n
  induction n with
  | zero => intro σ x1 x2 x4 x5 x6 h; exact nn h
  | succ n ih => intro σ x1 x2 x4 x5 x6 h; exact jX9_rows_56 hE (FX9_rows_56 n) ih σ x1 x2 x4 x5 x6 h
noncomputable def FX9_rows (σ : Mem) (a1 : Int32) (a2 : Int64) (a4 : Int32) : Option (Int32 × Mem) :=
  bi (FX9_in σ ((a1).toInt64) (1 : Int64) (3 : Int64)) fun r46 σ45 =>
  if r46 = 0 then
  (some ((-2 : Int32), σ45))
  else
  (if (lg_cmp a2 (0 : Int64)) < 0 then
  (some ((-2 : Int32), σ45))
  else
  (bi (FX9_cells σ45) fun r48 σ47 =>
  if (lg_cmp (a2 >>> ((r48).toInt64 &&& 63)) (0 : Int64)) = 0 then
  (bi (FX9_in σ47 ((a4).toInt64) (-1 : Int64) (((a1).toInt64) - (1 : Int64))) fun r50 σ49 =>
  if r50 = 0 then
  (some ((-1 : Int32), σ49))
  else
  (FX9_rows_56 FU σ49 a1 a2 a4 (1 : Int32) (0 : Int32)))
  else
  (some ((-2 : Int32), σ47))))
set_option maxHeartbeats 4000000 in
set_option maxRecDepth 100000 in
theorem eX9_rows {X : CX} {out : Int32 × Mem} (hE : Ends X SM (some (.int out.1)) out.2) (σ : Mem) (a1 : Int32) (a2 : Int64) (a4 : Int32) (h : FX9_rows σ a1 a2 a4 = some out) : J X SM mX9_rows σ 0 [(0, .ref (xad X 0)), (1, .int a1), (2, .long a2), (4, .int a4)] [] := by
  refine r_iload_n 1 dX9_rows_0 rfl rfl rfl ?_
  refine r_i2l dX9_rows_1 rfl ?_
  refine r_lconst dX9_rows_2 rfl kl_1 ?_
  refine r_ldc2 dX9_rows_3 rfl cl_RX9_138 ?_
  obtain ⟨r46, σ45, hc, h⟩ := bi_of h
  refine r_callS [] [.int r46]  (coX9_in σ ((a1).toInt64) (1 : Int64) (3 : Int64) r46 σ45 hc) ms_RX9_142 (by decide) rfl rfl (Nat.le_of_ble_eq_true rfl) rfl dX9_rows_6 rfl ?_
  refine r_if_eq dX9_rows_9 rfl rfl h (fun c h => ?_) (fun c h => ?_)
  · refine r_bipush dX9_rows_29 rfl kb_m2 ?_
    exact r_iret rfl dX9_rows_31 h hE
  · refine r_lload_n 2 dX9_rows_12 rfl rfl rfl ?_
    refine r_lconst dX9_rows_13 rfl kl_0 ?_
    refine r_lcmp dX9_rows_14 rfl ?_
    refine r_if_lt dX9_rows_15 rfl rfl h (fun c h => ?_) (fun c h => ?_)
    · refine r_bipush dX9_rows_29 rfl kb_m2 ?_
      exact r_iret rfl dX9_rows_31 h hE
    · refine r_lload_n 2 dX9_rows_18 rfl rfl rfl ?_
      refine r_aload_n 0 dX9_rows_19 rfl rfl rfl ?_
      obtain ⟨r48, σ47, hc, h⟩ := bi_of h
      refine r_callV [] [.long a2] [.int r48, .long a2]  (coX9_cells σ45 r48 σ47 hc) mv_RX9_182 (by decide) rfl rfl rfl rfl rfl (Nat.le_of_ble_eq_true rfl) rfl dX9_rows_20 rfl ?_
      refine r_lshr dX9_rows_23 rfl ?_
      refine r_lconst dX9_rows_24 rfl kl_0 ?_
      refine r_lcmp dX9_rows_25 rfl ?_
      refine r_if_eq dX9_rows_26 rfl rfl h (fun c h => ?_) (fun c h => ?_)
      · refine r_iload 3 dX9_rows_32 rfl rfl ?_
        refine r_i2l dX9_rows_34 rfl ?_
        refine r_ldc2 dX9_rows_35 rfl cl_RX9_297 ?_
        refine r_iload_n 1 dX9_rows_38 rfl rfl rfl ?_
        refine r_i2l dX9_rows_39 rfl ?_
        refine r_lconst dX9_rows_40 rfl kl_1 ?_
        refine r_lsub dX9_rows_41 rfl ?_
        obtain ⟨r50, σ49, hc, h⟩ := bi_of h
        refine r_callS [] [.int r50]  (coX9_in σ47 ((a4).toInt64) (-1 : Int64) (((a1).toInt64) - (1 : Int64)) r50 σ49 hc) ms_RX9_142 (by decide) rfl rfl (Nat.le_of_ble_eq_true rfl) rfl dX9_rows_42 rfl ?_
        refine r_if_ne dX9_rows_45 rfl rfl h (fun c h => ?_) (fun c h => ?_)
        · refine r_iconst dX9_rows_50 rfl ki_1 ?_
          refine r_istoreV [(5, .int (1 : Int32)), (0, .ref (xad X 0)), (1, .int a1), (2, .long a2), (4, .int a4)] dX9_rows_51 rfl (show 5 < 9 by decide) rfl ?_
          refine r_iconst dX9_rows_53 rfl ki_0 ?_
          refine r_istoreV [(6, .int (0 : Int32)), (5, .int (1 : Int32)), (0, .ref (xad X 0)), (1, .int a1), (2, .long a2), (4, .int a4)] dX9_rows_54 rfl (show 6 < 9 by decide) rfl ?_
          refine r_sub [2, 3, 4, 5, 1, 0] rfl ?_
          exact lX9_rows_56 hE FU σ49 a1 a2 a4 (1 : Int32) (0 : Int32) h
        · refine r_iconst dX9_rows_48 rfl ki_m1 ?_
          exact r_iret rfl dX9_rows_49 h hE
      · refine r_bipush dX9_rows_29 rfl kb_m2 ?_
        exact r_iret rfl dX9_rows_31 h hE
theorem coX9_rows (σ : Mem) (a1 : Int32) (a2 : Int64) (a4 : Int32) (r : Int32) (σ2 : Mem) (h : FX9_rows σ a1 a2 a4 = some (r, σ2)) : Con SM 6 yX9_rows cX9_rows 9 (some .int) (fun ad => [.ref (ad 0), .int a1, .long a2, .int a4]) σ (fun _ => some (.int r)) σ2 :=
  con_of (by decide +kernel) (fun _ => Nat.le_of_ble_eq_true rfl) (fun X hE => eX9_rows (out := (r, σ2)) hE σ a1 a2 a4 h)
-- IceYardModel sand
abbrev mX9_sand : MD := (cX9_sand, RX9, 10, (some .int), 6)
noncomputable def FX9_sand_258 (σ : Mem) (x4 : Int32) (x5 : Int32) (x6 : Int32) (x7 : Int32) : Option (Int32 × Mem) :=
  if 0 ≤ x4 then
  (if x4 = 0 then
  (some (x6, σ))
  else
  (some (x7, σ)))
  else
  (some (x5, σ))
set_option maxHeartbeats 4000000 in
set_option maxRecDepth 100000 in
theorem jX9_sand_258 {X : CX} {out : Int32 × Mem} (hE : Ends X SM (some (.int out.1)) out.2) (σ : Mem) (x4 : Int32) (x5 : Int32) (x6 : Int32) (x7 : Int32) (h : FX9_sand_258 σ x4 x5 x6 x7 = some out) : J X SM mX9_sand σ 258 [(4, .int x4), (5, .int x5), (6, .int x6), (7, .int x7)] [] := by
  refine r_iload 0 dX9_sand_258 rfl rfl ?_
  refine r_if_ge dX9_sand_260 rfl rfl h (fun c h => ?_) (fun c h => ?_)
  · refine r_iload 0 dX9_sand_268 rfl rfl ?_
    refine r_if_ne dX9_sand_270 rfl rfl h (fun c h => ?_) (fun c h => ?_)
    · refine r_iload 3 dX9_sand_278 rfl rfl ?_
      exact r_iret rfl dX9_sand_280 h hE
    · refine r_iload 2 dX9_sand_273 rfl rfl ?_
      refine r_goto dX9_sand_275 rfl ?_
      exact r_iret rfl dX9_sand_280 h hE
  · refine r_iload 1 dX9_sand_263 rfl rfl ?_
    refine r_goto dX9_sand_265 rfl ?_
    exact r_iret rfl dX9_sand_280 h hE
noncomputable def BX9_sand_175 (rl155 : Mem → Int32 → Int32 → Int32 → Int32 → Int32 → Int32 → Int32 → Int32 → Option (Int32 × Mem)) (rl175 : Mem → Int32 → Int32 → Int32 → Int32 → Int32 → Int32 → Int32 → Int32 → Int32 → Option (Int32 × Mem)) (σ : Mem) (x1 : Int32) (x2 : Int32) (x3 : Int32) (x4 : Int32) (x5 : Int32) (x6 : Int32) (x7 : Int32) (x8 : Int32) (x9 : Int32) : Option (Int32 × Mem) :=
  bi (FX9_cells σ) fun r46 σ45 =>
  if r46 ≤ x9 then
  (nm (x8 + (1 : Int32)) fun x_47 =>
  rl155 σ45 x1 x2 x3 x4 x5 x6 x7 x_47)
  else
  (if 0 ≤ x5 then
  (nm (x8 + (1 : Int32)) fun x_48 =>
  rl155 σ45 x1 x2 x3 x4 x5 x6 x7 x_48)
  else
  (bi (FX9_maySand σ45 x8) fun r50 σ49 =>
  if r50 = 0 then
  (nm (x9 + (1 : Int32)) fun x_51 =>
  rl175 σ49 x1 x2 x3 x4 x5 x6 x7 x8 x_51)
  else
  (bi (FX9_maySand σ49 x9) fun r53 σ52 =>
  if r53 = 0 then
  (nm (x9 + (1 : Int32)) fun x_54 =>
  rl175 σ52 x1 x2 x3 x4 x5 x6 x7 x8 x_54)
  else
  (nm (setL σ52 0 17 (((1 : Int64) <<< ((x8).toInt64 &&& 63)) ||| ((1 : Int64) <<< ((x9).toInt64 &&& 63)))) fun σ55 =>
  bi (FX9_comesHome σ55 x1 x2 x3) fun r57 σ56 =>
  if r57 = 0 then
  (nm (setL σ56 0 17 (0 : Int64)) fun σ58 =>
  nm (x9 + (1 : Int32)) fun x_59 =>
  rl175 σ58 x1 x2 x3 x4 x5 x6 x7 x8 x_59)
  else
  (nm (setL σ56 0 17 (0 : Int64)) fun σ60 =>
  nm (x9 + (1 : Int32)) fun x_61 =>
  rl175 σ60 x1 x2 x3 x4 (2 : Int32) x8 x9 x8 x_61)))))
set_option maxHeartbeats 4000000 in
set_option maxRecDepth 100000 in
theorem jX9_sand_175 {X : CX} {out : Int32 × Mem} (hE : Ends X SM (some (.int out.1)) out.2) (rl155 : Mem → Int32 → Int32 → Int32 → Int32 → Int32 → Int32 → Int32 → Int32 → Option (Int32 × Mem)) (hr155 : ∀ (σ : Mem) (x1 : Int32) (x2 : Int32) (x3 : Int32) (x4 : Int32) (x5 : Int32) (x6 : Int32) (x7 : Int32) (x8 : Int32), rl155 σ x1 x2 x3 x4 x5 x6 x7 x8 = some out → J X SM mX9_sand σ 155 [(0, .ref (xad X 0)), (1, .int x1), (2, .int x2), (3, .int x3), (4, .int x4), (5, .int x5), (6, .int x6), (7, .int x7), (8, .int x8)] []) (rl175 : Mem → Int32 → Int32 → Int32 → Int32 → Int32 → Int32 → Int32 → Int32 → Int32 → Option (Int32 × Mem)) (hr175 : ∀ (σ : Mem) (x1 : Int32) (x2 : Int32) (x3 : Int32) (x4 : Int32) (x5 : Int32) (x6 : Int32) (x7 : Int32) (x8 : Int32) (x9 : Int32), rl175 σ x1 x2 x3 x4 x5 x6 x7 x8 x9 = some out → J X SM mX9_sand σ 175 [(0, .ref (xad X 0)), (1, .int x1), (2, .int x2), (3, .int x3), (4, .int x4), (5, .int x5), (6, .int x6), (7, .int x7), (8, .int x8), (9, .int x9)] []) (σ : Mem) (x1 : Int32) (x2 : Int32) (x3 : Int32) (x4 : Int32) (x5 : Int32) (x6 : Int32) (x7 : Int32) (x8 : Int32) (x9 : Int32) (h : BX9_sand_175 rl155 rl175 σ x1 x2 x3 x4 x5 x6 x7 x8 x9 = some out) : J X SM mX9_sand σ 175 [(0, .ref (xad X 0)), (1, .int x1), (2, .int x2), (3, .int x3), (4, .int x4), (5, .int x5), (6, .int x6), (7, .int x7), (8, .int x8), (9, .int x9)] [] := by
  refine r_iload 9 dX9_sand_175 rfl rfl ?_
  refine r_aload_n 0 dX9_sand_177 rfl rfl rfl ?_
  obtain ⟨r46, σ45, hc, h⟩ := bi_of h
  refine r_callV [] [.int x9] [.int r46, .int x9]  (coX9_cells σ r46 σ45 hc) mv_RX9_182 (by decide) rfl rfl rfl rfl rfl (Nat.le_of_ble_eq_true rfl) rfl dX9_sand_178 rfl ?_
  refine r_icmp_ge dX9_sand_181 rfl rfl h (fun c h => ?_) (fun c h => ?_)
  · refine r_iinc 8 (fun x_47 => [(8, .int x_47), (0, .ref (xad X 0)), (1, .int x1), (2, .int x2), (3, .int x3), (4, .int x4), (5, .int x5), (6, .int x6), (7, .int x7), (9, .int x9)]) dX9_sand_252 rfl rfl ki_1 (show 8 < 10 by decide) (fun _ => rfl) h (fun x_47 h => ?_)
    refine r_goto dX9_sand_255 rfl ?_
    refine r_sub [1, 2, 3, 4, 5, 6, 7, 8, 0] rfl ?_
    exact hr155 σ45 x1 x2 x3 x4 x5 x6 x7 x_47 h
  · refine r_iload 5 dX9_sand_184 rfl rfl ?_
    refine r_if_ge dX9_sand_186 rfl rfl h (fun c h => ?_) (fun c h => ?_)
    · refine r_iinc 8 (fun x_48 => [(8, .int x_48), (0, .ref (xad X 0)), (1, .int x1), (2, .int x2), (3, .int x3), (4, .int x4), (5, .int x5), (6, .int x6), (7, .int x7), (9, .int x9)]) dX9_sand_252 rfl rfl ki_1 (show 8 < 10 by decide) (fun _ => rfl) h (fun x_48 h => ?_)
      refine r_goto dX9_sand_255 rfl ?_
      refine r_sub [1, 2, 3, 4, 5, 6, 7, 8, 0] rfl ?_
      exact hr155 σ45 x1 x2 x3 x4 x5 x6 x7 x_48 h
    · refine r_aload_n 0 dX9_sand_189 rfl rfl rfl ?_
      refine r_iload 8 dX9_sand_190 rfl rfl ?_
      obtain ⟨r50, σ49, hc, h⟩ := bi_of h
      refine r_callV [.int x8] [] [.int r50]  (coX9_maySand σ45 x8 r50 σ49 hc) mv_RX9_305 (by decide) rfl rfl rfl rfl rfl (Nat.le_of_ble_eq_true rfl) rfl dX9_sand_192 rfl ?_
      refine r_if_eq dX9_sand_195 rfl rfl h (fun c h => ?_) (fun c h => ?_)
      · refine r_iinc 9 (fun x_51 => [(9, .int x_51), (0, .ref (xad X 0)), (1, .int x1), (2, .int x2), (3, .int x3), (4, .int x4), (5, .int x5), (6, .int x6), (7, .int x7), (8, .int x8)]) dX9_sand_246 rfl rfl ki_1 (show 9 < 10 by decide) (fun _ => rfl) h (fun x_51 h => ?_)
        refine r_goto dX9_sand_249 rfl ?_
        refine r_sub [1, 2, 3, 4, 5, 6, 7, 8, 9, 0] rfl ?_
        exact hr175 σ49 x1 x2 x3 x4 x5 x6 x7 x8 x_51 h
      · refine r_aload_n 0 dX9_sand_198 rfl rfl rfl ?_
        refine r_iload 9 dX9_sand_199 rfl rfl ?_
        obtain ⟨r53, σ52, hc, h⟩ := bi_of h
        refine r_callV [.int x9] [] [.int r53]  (coX9_maySand σ49 x9 r53 σ52 hc) mv_RX9_305 (by decide) rfl rfl rfl rfl rfl (Nat.le_of_ble_eq_true rfl) rfl dX9_sand_201 rfl ?_
        refine r_if_eq dX9_sand_204 rfl rfl h (fun c h => ?_) (fun c h => ?_)
        · refine r_iinc 9 (fun x_54 => [(9, .int x_54), (0, .ref (xad X 0)), (1, .int x1), (2, .int x2), (3, .int x3), (4, .int x4), (5, .int x5), (6, .int x6), (7, .int x7), (8, .int x8)]) dX9_sand_246 rfl rfl ki_1 (show 9 < 10 by decide) (fun _ => rfl) h (fun x_54 h => ?_)
          refine r_goto dX9_sand_249 rfl ?_
          refine r_sub [1, 2, 3, 4, 5, 6, 7, 8, 9, 0] rfl ?_
          exact hr175 σ52 x1 x2 x3 x4 x5 x6 x7 x8 x_54 h
        · refine r_aload_n 0 dX9_sand_207 rfl rfl rfl ?_
          refine r_lconst dX9_sand_208 rfl kl_1 ?_
          refine r_iload 8 dX9_sand_209 rfl rfl ?_
          refine r_lshl dX9_sand_211 rfl ?_
          refine r_lconst dX9_sand_212 rfl kl_1 ?_
          refine r_iload 9 dX9_sand_213 rfl rfl ?_
          refine r_lshl dX9_sand_215 rfl ?_
          refine r_lor dX9_sand_216 rfl ?_
          refine r_putL fp_RX9_190 rfl rfl dX9_sand_217 rfl h (fun σ55 h => ?_)
          refine r_aload_n 0 dX9_sand_220 rfl rfl rfl ?_
          refine r_iload_n 1 dX9_sand_221 rfl rfl rfl ?_
          refine r_iload_n 2 dX9_sand_222 rfl rfl rfl ?_
          refine r_iload_n 3 dX9_sand_223 rfl rfl rfl ?_
          obtain ⟨r57, σ56, hc, h⟩ := bi_of h
          refine r_callV [.int x1, .int x2, .int x3] [] [.int r57]  (coX9_comesHome σ55 x1 x2 x3 r57 σ56 hc) mv_RX9_302 (by decide) rfl rfl rfl rfl rfl (Nat.le_of_ble_eq_true rfl) rfl dX9_sand_224 rfl ?_
          refine r_if_eq dX9_sand_227 rfl rfl h (fun c h => ?_) (fun c h => ?_)
          · refine r_aload_n 0 dX9_sand_241 rfl rfl rfl ?_
            refine r_lconst dX9_sand_242 rfl kl_0 ?_
            refine r_putL fp_RX9_190 rfl rfl dX9_sand_243 rfl h (fun σ58 h => ?_)
            refine r_iinc 9 (fun x_59 => [(9, .int x_59), (0, .ref (xad X 0)), (1, .int x1), (2, .int x2), (3, .int x3), (4, .int x4), (5, .int x5), (6, .int x6), (7, .int x7), (8, .int x8)]) dX9_sand_246 rfl rfl ki_1 (show 9 < 10 by decide) (fun _ => rfl) h (fun x_59 h => ?_)
            refine r_goto dX9_sand_249 rfl ?_
            refine r_sub [1, 2, 3, 4, 5, 6, 7, 8, 9, 0] rfl ?_
            exact hr175 σ58 x1 x2 x3 x4 x5 x6 x7 x8 x_59 h
          · refine r_iconst dX9_sand_230 rfl ki_2 ?_
            refine r_istoreV [(5, .int (2 : Int32)), (0, .ref (xad X 0)), (1, .int x1), (2, .int x2), (3, .int x3), (4, .int x4), (6, .int x6), (7, .int x7), (8, .int x8), (9, .int x9)] dX9_sand_231 rfl (show 5 < 10 by decide) rfl ?_
            refine r_iload 8 dX9_sand_233 rfl rfl ?_
            refine r_istoreV [(6, .int x8), (5, .int (2 : Int32)), (0, .ref (xad X 0)), (1, .int x1), (2, .int x2), (3, .int x3), (4, .int x4), (7, .int x7), (8, .int x8), (9, .int x9)] dX9_sand_235 rfl (show 6 < 10 by decide) rfl ?_
            refine r_iload 9 dX9_sand_237 rfl rfl ?_
            refine r_istoreV [(7, .int x9), (6, .int x8), (5, .int (2 : Int32)), (0, .ref (xad X 0)), (1, .int x1), (2, .int x2), (3, .int x3), (4, .int x4), (8, .int x8), (9, .int x9)] dX9_sand_239 rfl (show 7 < 10 by decide) rfl ?_
            refine r_aload_n 3 dX9_sand_241 rfl rfl rfl ?_
            refine r_lconst dX9_sand_242 rfl kl_0 ?_
            refine r_putL fp_RX9_190 rfl rfl dX9_sand_243 rfl h (fun σ60 h => ?_)
            refine r_iinc 9 (fun x_61 => [(9, .int x_61), (7, .int x9), (6, .int x8), (5, .int (2 : Int32)), (0, .ref (xad X 0)), (1, .int x1), (2, .int x2), (3, .int x3), (4, .int x4), (8, .int x8)]) dX9_sand_246 rfl rfl ki_1 (show 9 < 10 by decide) (fun _ => rfl) h (fun x_61 h => ?_)
            refine r_goto dX9_sand_249 rfl ?_
            refine r_sub [4, 5, 6, 7, 8, 3, 2, 1, 9, 0] rfl ?_
            exact hr175 σ60 x1 x2 x3 x4 (2 : Int32) x8 x9 x8 x_61 h
noncomputable def FX9_sand_175 (rl155 : Mem → Int32 → Int32 → Int32 → Int32 → Int32 → Int32 → Int32 → Int32 → Option (Int32 × Mem)) (n : Nat) : Mem → Int32 → Int32 → Int32 → Int32 → Int32 → Int32 → Int32 → Int32 → Int32 → Option (Int32 × Mem) :=
  Nat.rec (fun _ _ _ _ _ _ _ _ _ _ => none) (fun _ ih => BX9_sand_175 rl155 ih) n
theorem lX9_sand_175 {X : CX} {out : Int32 × Mem} (hE : Ends X SM (some (.int out.1)) out.2) (rl155 : Mem → Int32 → Int32 → Int32 → Int32 → Int32 → Int32 → Int32 → Int32 → Option (Int32 × Mem)) (hr155 : ∀ (σ : Mem) (x1 : Int32) (x2 : Int32) (x3 : Int32) (x4 : Int32) (x5 : Int32) (x6 : Int32) (x7 : Int32) (x8 : Int32), rl155 σ x1 x2 x3 x4 x5 x6 x7 x8 = some out → J X SM mX9_sand σ 155 [(0, .ref (xad X 0)), (1, .int x1), (2, .int x2), (3, .int x3), (4, .int x4), (5, .int x5), (6, .int x6), (7, .int x7), (8, .int x8)] []) : ∀ (n : Nat) (σ : Mem) (x1 : Int32) (x2 : Int32) (x3 : Int32) (x4 : Int32) (x5 : Int32) (x6 : Int32) (x7 : Int32) (x8 : Int32) (x9 : Int32), FX9_sand_175 rl155 n σ x1 x2 x3 x4 x5 x6 x7 x8 x9 = some out → J X SM mX9_sand σ 175 [(0, .ref (xad X 0)), (1, .int x1), (2, .int x2), (3, .int x3), (4, .int x4), (5, .int x5), (6, .int x6), (7, .int x7), (8, .int x8), (9, .int x9)] [] := by
  intro n
  induction n with
  | zero => intro σ x1 x2 x3 x4 x5 x6 x7 x8 x9 h; exact nn h
  | succ n ih => intro σ x1 x2 x3 x4 x5 x6 x7 x8 x9 h; exact jX9_sand_175 hE rl155 hr155 (FX9_sand_175 rl155 n) ih σ x1 x2 x3 x4 x5 x6 x7 x8 x9 h
noncomputable def BX9_sand_155 (rl155 : Mem → Int32 → Int32 → Int32 → Int32 → Int32 → Int32 → Int32 → Int32 → Option (Int32 × Mem)) (σ : Mem) (x1 : Int32) (x2 : Int32) (x3 : Int32) (x4 : Int32) (x5 : Int32) (x6 : Int32) (x7 : Int32) (x8 : Int32) : Option (Int32 × Mem) :=
  bi (FX9_cells σ) fun r63 σ62 =>
  if r63 ≤ x8 then
  (FX9_sand_258 σ62 x4 x5 x6 x7)
  else
  (if 0 ≤ x5 then
  (FX9_sand_258 σ62 x4 x5 x6 x7)
  else
  (nm (x8 + (1 : Int32)) fun x_64 =>
  FX9_sand_175 rl155 FU σ62 x1 x2 x3 x4 x5 x6 x7 x8 x_64))
set_option maxHeartbeats 4000000 in
set_option maxRecDepth 100000 in
theorem jX9_sand_155 {X : CX} {out : Int32 × Mem} (hE : Ends X SM (some (.int out.1)) out.2) (rl155 : Mem → Int32 → Int32 → Int32 → Int32 → Int32 → Int32 → Int32 → Int32 → Option (Int32 × Mem)) (hr155 : ∀ (σ : Mem) (x1 : Int32) (x2 : Int32) (x3 : Int32) (x4 : Int32) (x5 : Int32) (x6 : Int32) (x7 : Int32) (x8 : Int32), rl155 σ x1 x2 x3 x4 x5 x6 x7 x8 = some out → J X SM mX9_sand σ 155 [(0, .ref (xad X 0)), (1, .int x1), (2, .int x2), (3, .int x3), (4, .int x4), (5, .int x5), (6, .int x6), (7, .int x7), (8, .int x8)] []) (σ : Mem) (x1 : Int32) (x2 : Int32) (x3 : Int32) (x4 : Int32) (x5 : Int32) (x6 : Int32) (x7 : Int32) (x8 : Int32) (h : BX9_sand_155 rl155 σ x1 x2 x3 x4 x5 x6 x7 x8 = some out) : J X SM mX9_sand σ 155 [(0, .ref (xad X 0)), (1, .int x1), (2, .int x2), (3, .int x3), (4, .int x4), (5, .int x5), (6, .int x6), (7, .int x7), (8, .int x8)] [] := by
  refine r_iload 8 dX9_sand_155 rfl rfl ?_
  refine r_aload_n 0 dX9_sand_157 rfl rfl rfl ?_
  obtain ⟨r63, σ62, hc, h⟩ := bi_of h
  refine r_callV [] [.int x8] [.int r63, .int x8]  (coX9_cells σ r63 σ62 hc) mv_RX9_182 (by decide) rfl rfl rfl rfl rfl (Nat.le_of_ble_eq_true rfl) rfl dX9_sand_158 rfl ?_
  refine r_icmp_ge dX9_sand_161 rfl rfl h (fun c h => ?_) (fun c h => ?_)
  · refine r_sub [4, 5, 6, 7] rfl ?_
    exact jX9_sand_258 hE σ62 x4 x5 x6 x7 h
  · refine r_iload 5 dX9_sand_164 rfl rfl ?_
    refine r_if_ge dX9_sand_166 rfl rfl h (fun c h => ?_) (fun c h => ?_)
    · refine r_sub [4, 5, 6, 7] rfl ?_
      exact jX9_sand_258 hE σ62 x4 x5 x6 x7 h
    · refine r_iload 8 dX9_sand_169 rfl rfl ?_
      refine r_iconst dX9_sand_171 rfl ki_1 ?_
      refine r_iadd dX9_sand_172 rfl ?_
      refine r_istore (fun x_64 => [(9, .int x_64), (0, .ref (xad X 0)), (1, .int x1), (2, .int x2), (3, .int x3), (4, .int x4), (5, .int x5), (6, .int x6), (7, .int x7), (8, .int x8)]) dX9_sand_173 rfl (show 9 < 10 by decide) (fun _ => rfl) h (fun x_64 h => ?_)
      refine r_sub [1, 2, 3, 4, 5, 6, 7, 8, 9, 0] rfl ?_
      exact lX9_sand_175 hE rl155 hr155 FU σ62 x1 x2 x3 x4 x5 x6 x7 x8 x_64 h
noncomputable def FX9_sand_155 (n : Nat) : Mem → Int32 → Int32 → Int32 → Int32 → Int32 → Int32 → Int32 → Int32 → Option (Int32 × Mem) :=
  Nat.rec (fun _ _ _ _ _ _ _ _ _ => none) (fun _ ih => BX9_sand_155 ih) n
theorem lX9_sand_155 {X : CX} {out : Int32 × Mem} (hE : Ends X SM (some (.int out.1)) out.2) : ∀ (n : Nat) (σ : Mem) (x1 : Int32) (x2 : Int32) (x3 : Int32) (x4 : Int32) (x5 : Int32) (x6 : Int32) (x7 : Int32) (x8 : Int32), FX9_sand_155 n σ x1 x2 x3 x4 x5 x6 x7 x8 = some out → J X SM mX9_sand σ 155 [(0, .ref (xad X 0)), (1, .int x1), (2, .int x2), (3, .int x3), (4, .int x4), (5, .int x5), (6, .int x6), (7, .int x7), (8, .int x8)] [] := by
  intro n
  induction n with
  | zero => intro σ x1 x2 x3 x4 x5 x6 x7 x8 h; exact nn h
  | succ n ih => intro σ x1 x2 x3 x4 x5 x6 x7 x8 h; exact jX9_sand_155 hE (FX9_sand_155 n) ih σ x1 x2 x3 x4 x5 x6 x7 x8 h
noncomputable def BX9_sand_93 (rl93 : Mem → Int32 → Int32 → Int32 → Int32 → Int32 → Int32 → Int32 → Int32 → Option (Int32 × Mem)) (σ : Mem) (x1 : Int32) (x2 : Int32) (x3 : Int32) (x4 : Int32) (x5 : Int32) (x6 : Int32) (x7 : Int32) (x8 : Int32) : Option (Int32 × Mem) :=
  bi (FX9_cells σ) fun r66 σ65 =>
  if r66 ≤ x8 then
  (FX9_sand_155 FU σ65 x1 x2 x3 x4 x5 x6 x7 (0 : Int32))
  else
  (if 0 ≤ x5 then
  (FX9_sand_155 FU σ65 x1 x2 x3 x4 x5 x6 x7 (0 : Int32))
  else
  (bi (FX9_maySand σ65 x8) fun r68 σ67 =>
  if r68 = 0 then
  (nm (x8 + (1 : Int32)) fun x_69 =>
  rl93 σ67 x1 x2 x3 x4 x5 x6 x7 x_69)
  else
  (nm (setL σ67 0 17 ((1 : Int64) <<< ((x8).toInt64 &&& 63))) fun σ70 =>
  bi (FX9_comesHome σ70 x1 x2 x3) fun r72 σ71 =>
  if r72 = 0 then
  (nm (setL σ71 0 17 (0 : Int64)) fun σ73 =>
  nm (x8 + (1 : Int32)) fun x_74 =>
  rl93 σ73 x1 x2 x3 x4 x5 x6 x7 x_74)
  else
  (nm (setL σ71 0 17 (0 : Int64)) fun σ75 =>
  nm (x8 + (1 : Int32)) fun x_76 =>
  rl93 σ75 x1 x2 x3 x4 (1 : Int32) x8 x7 x_76))))
set_option maxHeartbeats 4000000 in
set_option maxRecDepth 100000 in
theorem jX9_sand_93 {X : CX} {out : Int32 × Mem} (hE : Ends X SM (some (.int out.1)) out.2) (rl93 : Mem → Int32 → Int32 → Int32 → Int32 → Int32 → Int32 → Int32 → Int32 → Option (Int32 × Mem)) (hr93 : ∀ (σ : Mem) (x1 : Int32) (x2 : Int32) (x3 : Int32) (x4 : Int32) (x5 : Int32) (x6 : Int32) (x7 : Int32) (x8 : Int32), rl93 σ x1 x2 x3 x4 x5 x6 x7 x8 = some out → J X SM mX9_sand σ 93 [(0, .ref (xad X 0)), (1, .int x1), (2, .int x2), (3, .int x3), (4, .int x4), (5, .int x5), (6, .int x6), (7, .int x7), (8, .int x8)] []) (σ : Mem) (x1 : Int32) (x2 : Int32) (x3 : Int32) (x4 : Int32) (x5 : Int32) (x6 : Int32) (x7 : Int32) (x8 : Int32) (h : BX9_sand_93 rl93 σ x1 x2 x3 x4 x5 x6 x7 x8 = some out) : J X SM mX9_sand σ 93 [(0, .ref (xad X 0)), (1, .int x1), (2, .int x2), (3, .int x3), (4, .int x4), (5, .int x5), (6, .int x6), (7, .int x7), (8, .int x8)] [] := by
  refine r_iload 8 dX9_sand_93 rfl rfl ?_
  refine r_aload_n 0 dX9_sand_95 rfl rfl rfl ?_
  obtain ⟨r66, σ65, hc, h⟩ := bi_of h
  refine r_callV [] [.int x8] [.int r66, .int x8]  (coX9_cells σ r66 σ65 hc) mv_RX9_182 (by decide) rfl rfl rfl rfl rfl (Nat.le_of_ble_eq_true rfl) rfl dX9_sand_96 rfl ?_
  refine r_icmp_ge dX9_sand_99 rfl rfl h (fun c h => ?_) (fun c h => ?_)
  · refine r_iconst dX9_sand_152 rfl ki_0 ?_
    refine r_istoreV [(8, .int (0 : Int32)), (0, .ref (xad X 0)), (1, .int x1), (2, .int x2), (3, .int x3), (4, .int x4), (5, .int x5), (6, .int x6), (7, .int x7)] dX9_sand_153 rfl (show 8 < 10 by decide) rfl ?_
    refine r_sub [1, 2, 3, 4, 5, 6, 7, 8, 0] rfl ?_
    exact lX9_sand_155 hE FU σ65 x1 x2 x3 x4 x5 x6 x7 (0 : Int32) h
  · refine r_iload 5 dX9_sand_102 rfl rfl ?_
    refine r_if_ge dX9_sand_104 rfl rfl h (fun c h => ?_) (fun c h => ?_)
    · refine r_iconst dX9_sand_152 rfl ki_0 ?_
      refine r_istoreV [(8, .int (0 : Int32)), (0, .ref (xad X 0)), (1, .int x1), (2, .int x2), (3, .int x3), (4, .int x4), (5, .int x5), (6, .int x6), (7, .int x7)] dX9_sand_153 rfl (show 8 < 10 by decide) rfl ?_
      refine r_sub [1, 2, 3, 4, 5, 6, 7, 8, 0] rfl ?_
      exact lX9_sand_155 hE FU σ65 x1 x2 x3 x4 x5 x6 x7 (0 : Int32) h
    · refine r_aload_n 0 dX9_sand_107 rfl rfl rfl ?_
      refine r_iload 8 dX9_sand_108 rfl rfl ?_
      obtain ⟨r68, σ67, hc, h⟩ := bi_of h
      refine r_callV [.int x8] [] [.int r68]  (coX9_maySand σ65 x8 r68 σ67 hc) mv_RX9_305 (by decide) rfl rfl rfl rfl rfl (Nat.le_of_ble_eq_true rfl) rfl dX9_sand_110 rfl ?_
      refine r_if_eq dX9_sand_113 rfl rfl h (fun c h => ?_) (fun c h => ?_)
      · refine r_iinc 8 (fun x_69 => [(8, .int x_69), (0, .ref (xad X 0)), (1, .int x1), (2, .int x2), (3, .int x3), (4, .int x4), (5, .int x5), (6, .int x6), (7, .int x7)]) dX9_sand_146 rfl rfl ki_1 (show 8 < 10 by decide) (fun _ => rfl) h (fun x_69 h => ?_)
        refine r_goto dX9_sand_149 rfl ?_
        refine r_sub [1, 2, 3, 4, 5, 6, 7, 8, 0] rfl ?_
        exact hr93 σ67 x1 x2 x3 x4 x5 x6 x7 x_69 h
      · refine r_aload_n 0 dX9_sand_116 rfl rfl rfl ?_
        refine r_lconst dX9_sand_117 rfl kl_1 ?_
        refine r_iload 8 dX9_sand_118 rfl rfl ?_
        refine r_lshl dX9_sand_120 rfl ?_
        refine r_putL fp_RX9_190 rfl rfl dX9_sand_121 rfl h (fun σ70 h => ?_)
        refine r_aload_n 0 dX9_sand_124 rfl rfl rfl ?_
        refine r_iload_n 1 dX9_sand_125 rfl rfl rfl ?_
        refine r_iload_n 2 dX9_sand_126 rfl rfl rfl ?_
        refine r_iload_n 3 dX9_sand_127 rfl rfl rfl ?_
        obtain ⟨r72, σ71, hc, h⟩ := bi_of h
        refine r_callV [.int x1, .int x2, .int x3] [] [.int r72]  (coX9_comesHome σ70 x1 x2 x3 r72 σ71 hc) mv_RX9_302 (by decide) rfl rfl rfl rfl rfl (Nat.le_of_ble_eq_true rfl) rfl dX9_sand_128 rfl ?_
        refine r_if_eq dX9_sand_131 rfl rfl h (fun c h => ?_) (fun c h => ?_)
        · refine r_aload_n 0 dX9_sand_141 rfl rfl rfl ?_
          refine r_lconst dX9_sand_142 rfl kl_0 ?_
          refine r_putL fp_RX9_190 rfl rfl dX9_sand_143 rfl h (fun σ73 h => ?_)
          refine r_iinc 8 (fun x_74 => [(8, .int x_74), (0, .ref (xad X 0)), (1, .int x1), (2, .int x2), (3, .int x3), (4, .int x4), (5, .int x5), (6, .int x6), (7, .int x7)]) dX9_sand_146 rfl rfl ki_1 (show 8 < 10 by decide) (fun _ => rfl) h (fun x_74 h => ?_)
          refine r_goto dX9_sand_149 rfl ?_
          refine r_sub [1, 2, 3, 4, 5, 6, 7, 8, 0] rfl ?_
          exact hr93 σ73 x1 x2 x3 x4 x5 x6 x7 x_74 h
        · refine r_iconst dX9_sand_134 rfl ki_1 ?_
          refine r_istoreV [(5, .int (1 : Int32)), (0, .ref (xad X 0)), (1, .int x1), (2, .int x2), (3, .int x3), (4, .int x4), (6, .int x6), (7, .int x7), (8, .int x8)] dX9_sand_135 rfl (show 5 < 10 by decide) rfl ?_
          refine r_iload 8 dX9_sand_137 rfl rfl ?_
          refine r_istoreV [(6, .int x8), (5, .int (1 : Int32)), (0, .ref (xad X 0)), (1, .int x1), (2, .int x2), (3, .int x3), (4, .int x4), (7, .int x7), (8, .int x8)] dX9_sand_139 rfl (show 6 < 10 by decide) rfl ?_
          refine r_aload_n 2 dX9_sand_141 rfl rfl rfl ?_
          refine r_lconst dX9_sand_142 rfl kl_0 ?_
          refine r_putL fp_RX9_190 rfl rfl dX9_sand_143 rfl h (fun σ75 h => ?_)
          refine r_iinc 8 (fun x_76 => [(8, .int x_76), (6, .int x8), (5, .int (1 : Int32)), (0, .ref (xad X 0)), (1, .int x1), (2, .int x2), (3, .int x3), (4, .int x4), (7, .int x7)]) dX9_sand_146 rfl rfl ki_1 (show 8 < 10 by decide) (fun _ => rfl) h (fun x_76 h => ?_)
          refine r_goto dX9_sand_149 rfl ?_
          refine r_sub [3, 4, 5, 6, 7, 2, 1, 8, 0] rfl ?_
          exact hr93 σ75 x1 x2 x3 x4 (1 : Int32) x8 x7 x_76 h
noncomputable def FX9_sand_93 (n : Nat) : Mem → Int32 → Int32 → Int32 → Int32 → Int32 → Int32 → Int32 → Int32 → Option (Int32 × Mem) :=
  Nat.rec (fun _ _ _ _ _ _ _ _ _ => none) (fun _ ih => BX9_sand_93 ih) n
theorem lX9_sand_93 {X : CX} {out : Int32 × Mem} (hE : Ends X SM (some (.int out.1)) out.2) : ∀ (n : Nat) (σ : Mem) (x1 : Int32) (x2 : Int32) (x3 : Int32) (x4 : Int32) (x5 : Int32) (x6 : Int32) (x7 : Int32) (x8 : Int32), FX9_sand_93 n σ x1 x2 x3 x4 x5 x6 x7 x8 = some out → J X SM mX9_sand σ 93 [(0, .ref (xad X 0)), (1, .int x1), (2, .int x2), (3, .int x3), (4, .int x4), (5, .int x5), (6, .int x6), (7, .int x7), (8, .int x8)] [] := by
  intro n
  induction n with
  | zero => intro σ x1 x2 x3 x4 x5 x6 x7 x8 h; exact nn h
  | succ n ih => intro σ x1 x2 x3 x4 x5 x6 x7 x8 h; exact jX9_sand_93 hE (FX9_sand_93 n) ih σ x1 x2 x3 x4 x5 x6 x7 x8 h
noncomputable def FX9_sand (σ : Mem) (a1 : Int32) (a2 : Int32) (a3 : Int32) (a4 : Int32) : Option (Int32 × Mem) :=
  bi (FX9_noBlock σ a1) fun r78 σ77 =>
  if r78 = 0 then
  (bi (FX9_in σ77 ((a2).toInt64) (0 : Int64) (1 : Int64)) fun r80 σ79 =>
  if r80 = 0 then
  (some ((-1 : Int32), σ79))
  else
  (bi (FX9_in σ79 ((a4).toInt64) (-1 : Int64) (1 : Int64)) fun r82 σ81 =>
  if r82 = 0 then
  (some ((-1 : Int32), σ81))
  else
  (bi (FX9_in σ81 ((a3).toInt64) (1 : Int64) (2 : Int64)) fun r84 σ83 =>
  if r84 = 0 then
  (some ((-2 : Int32), σ83))
  else
  (rd a1 6 fun j85 =>
  if 0 ≤ (σ83.1 4 j85) then
  (bv (FX9_hold σ83 (0 : Int32)) fun σ86 =>
  bi (FX9_comesHome σ86 a1 a2 a3) fun r88 σ87 =>
  if r88 = 0 then
  (FX9_sand_93 FU σ87 a1 a2 a3 a4 (-9 : Int32) (-9 : Int32) (-9 : Int32) (0 : Int32))
  else
  (FX9_sand_93 FU σ87 a1 a2 a3 a4 (0 : Int32) (-9 : Int32) (-9 : Int32) (0 : Int32)))
  else
  (some ((-9 : Int32), σ83))))))
  else
  (some ((-1 : Int32), σ77))
set_option maxHeartbeats 4000000 in
set_option maxRecDepth 100000 in
theorem eX9_sand {X : CX} {out : Int32 × Mem} (hE : Ends X SM (some (.int out.1)) out.2) (σ : Mem) (a1 : Int32) (a2 : Int32) (a3 : Int32) (a4 : Int32) (h : FX9_sand σ a1 a2 a3 a4 = some out) : J X SM mX9_sand σ 0 [(0, .ref (xad X 0)), (1, .int a1), (2, .int a2), (3, .int a3), (4, .int a4)] [] := by
  refine r_aload_n 0 dX9_sand_0 rfl rfl rfl ?_
  refine r_iload_n 1 dX9_sand_1 rfl rfl rfl ?_
  obtain ⟨r78, σ77, hc, h⟩ := bi_of h
  refine r_callV [.int a1] [] [.int r78]  (coX9_noBlock σ a1 r78 σ77 hc) mv_RX9_202 (by decide) rfl rfl rfl rfl rfl (Nat.le_of_ble_eq_true rfl) rfl dX9_sand_2 rfl ?_
  refine r_if_ne dX9_sand_5 rfl rfl h (fun c h => ?_) (fun c h => ?_)
  · refine r_iconst dX9_sand_31 rfl ki_m1 ?_
    exact r_iret rfl dX9_sand_32 h hE
  · refine r_iload_n 2 dX9_sand_8 rfl rfl rfl ?_
    refine r_i2l dX9_sand_9 rfl ?_
    refine r_lconst dX9_sand_10 rfl kl_0 ?_
    refine r_lconst dX9_sand_11 rfl kl_1 ?_
    obtain ⟨r80, σ79, hc, h⟩ := bi_of h
    refine r_callS [] [.int r80]  (coX9_in σ77 ((a2).toInt64) (0 : Int64) (1 : Int64) r80 σ79 hc) ms_RX9_142 (by decide) rfl rfl (Nat.le_of_ble_eq_true rfl) rfl dX9_sand_12 rfl ?_
    refine r_if_eq dX9_sand_15 rfl rfl h (fun c h => ?_) (fun c h => ?_)
    · refine r_iconst dX9_sand_31 rfl ki_m1 ?_
      exact r_iret rfl dX9_sand_32 h hE
    · refine r_iload 4 dX9_sand_18 rfl rfl ?_
      refine r_i2l dX9_sand_20 rfl ?_
      refine r_ldc2 dX9_sand_21 rfl cl_RX9_297 ?_
      refine r_lconst dX9_sand_24 rfl kl_1 ?_
      obtain ⟨r82, σ81, hc, h⟩ := bi_of h
      refine r_callS [] [.int r82]  (coX9_in σ79 ((a4).toInt64) (-1 : Int64) (1 : Int64) r82 σ81 hc) ms_RX9_142 (by decide) rfl rfl (Nat.le_of_ble_eq_true rfl) rfl dX9_sand_25 rfl ?_
      refine r_if_ne dX9_sand_28 rfl rfl h (fun c h => ?_) (fun c h => ?_)
      · refine r_iload_n 3 dX9_sand_33 rfl rfl rfl ?_
        refine r_i2l dX9_sand_34 rfl ?_
        refine r_lconst dX9_sand_35 rfl kl_1 ?_
        refine r_ldc2 dX9_sand_36 rfl cl_RX9_166 ?_
        obtain ⟨r84, σ83, hc, h⟩ := bi_of h
        refine r_callS [] [.int r84]  (coX9_in σ81 ((a3).toInt64) (1 : Int64) (2 : Int64) r84 σ83 hc) ms_RX9_142 (by decide) rfl rfl (Nat.le_of_ble_eq_true rfl) rfl dX9_sand_39 rfl ?_
        refine r_if_ne dX9_sand_42 rfl rfl h (fun c h => ?_) (fun c h => ?_)
        · refine r_aload_n 0 dX9_sand_48 rfl rfl rfl ?_
          refine r_getR fg_RX9_19 rfl rfl dX9_sand_49 rfl ?_
          refine r_iload_n 1 dX9_sand_52 rfl rfl rfl ?_
          refine r_iald rfl dX9_sand_53 rfl h (fun j85 h => ?_)
          refine r_if_ge dX9_sand_54 rfl rfl h (fun c h => ?_) (fun c h => ?_)
          · refine r_aload_n 0 dX9_sand_60 rfl rfl rfl ?_
            refine r_iconst dX9_sand_61 rfl ki_0 ?_
            obtain ⟨σ86, hc, h⟩ := bv_of h
            refine r_callV [.int (0 : Int32)] [] []  (coX9_hold σ83 (0 : Int32) σ86 hc) mv_RX9_217 (by decide) rfl rfl rfl rfl rfl (Nat.le_of_ble_eq_true rfl) rfl dX9_sand_62 rfl ?_
            refine r_bipush dX9_sand_65 rfl kb_m9 ?_
            refine r_istoreV [(5, .int (-9 : Int32)), (0, .ref (xad X 0)), (1, .int a1), (2, .int a2), (3, .int a3), (4, .int a4)] dX9_sand_67 rfl (show 5 < 10 by decide) rfl ?_
            refine r_bipush dX9_sand_69 rfl kb_m9 ?_
            refine r_istoreV [(6, .int (-9 : Int32)), (5, .int (-9 : Int32)), (0, .ref (xad X 0)), (1, .int a1), (2, .int a2), (3, .int a3), (4, .int a4)] dX9_sand_71 rfl (show 6 < 10 by decide) rfl ?_
            refine r_bipush dX9_sand_73 rfl kb_m9 ?_
            refine r_istoreV [(7, .int (-9 : Int32)), (6, .int (-9 : Int32)), (5, .int (-9 : Int32)), (0, .ref (xad X 0)), (1, .int a1), (2, .int a2), (3, .int a3), (4, .int a4)] dX9_sand_75 rfl (show 7 < 10 by decide) rfl ?_
            refine r_aload_n 3 dX9_sand_77 rfl rfl rfl ?_
            refine r_iload_n 4 dX9_sand_78 rfl rfl rfl ?_
            refine r_iload_n 5 dX9_sand_79 rfl rfl rfl ?_
            refine r_iload_n 6 dX9_sand_80 rfl rfl rfl ?_
            obtain ⟨r88, σ87, hc, h⟩ := bi_of h
            refine r_callV [.int a1, .int a2, .int a3] [] [.int r88]  (coX9_comesHome σ86 a1 a2 a3 r88 σ87 hc) mv_RX9_302 (by decide) rfl rfl rfl rfl rfl (Nat.le_of_ble_eq_true rfl) rfl dX9_sand_81 rfl ?_
            refine r_if_eq dX9_sand_84 rfl rfl h (fun c h => ?_) (fun c h => ?_)
            · refine r_iconst dX9_sand_90 rfl ki_0 ?_
              refine r_istoreV [(8, .int (0 : Int32)), (7, .int (-9 : Int32)), (6, .int (-9 : Int32)), (5, .int (-9 : Int32)), (0, .ref (xad X 0)), (1, .int a1), (2, .int a2), (3, .int a3), (4, .int a4)] dX9_sand_91 rfl (show 8 < 10 by decide) rfl ?_
              refine r_sub [4, 5, 6, 7, 8, 3, 2, 1, 0] rfl ?_
              exact lX9_sand_93 hE FU σ87 a1 a2 a3 a4 (-9 : Int32) (-9 : Int32) (-9 : Int32) (0 : Int32) h
            · refine r_iconst dX9_sand_87 rfl ki_0 ?_
              refine r_istoreV [(5, .int (0 : Int32)), (7, .int (-9 : Int32)), (6, .int (-9 : Int32)), (0, .ref (xad X 0)), (1, .int a1), (2, .int a2), (3, .int a3), (4, .int a4)] dX9_sand_88 rfl (show 5 < 10 by decide) rfl ?_
              refine r_iconst dX9_sand_90 rfl ki_0 ?_
              refine r_istoreV [(8, .int (0 : Int32)), (5, .int (0 : Int32)), (7, .int (-9 : Int32)), (6, .int (-9 : Int32)), (0, .ref (xad X 0)), (1, .int a1), (2, .int a2), (3, .int a3), (4, .int a4)] dX9_sand_91 rfl (show 8 < 10 by decide) rfl ?_
              refine r_sub [4, 5, 6, 7, 8, 1, 3, 2, 0] rfl ?_
              exact lX9_sand_93 hE FU σ87 a1 a2 a3 a4 (0 : Int32) (-9 : Int32) (-9 : Int32) (0 : Int32) h
          · refine r_bipush dX9_sand_57 rfl kb_m9 ?_
            exact r_iret rfl dX9_sand_59 h hE
        · refine r_bipush dX9_sand_45 rfl kb_m2 ?_
          exact r_iret rfl dX9_sand_47 h hE
      · refine r_iconst dX9_sand_31 rfl ki_m1 ?_
        exact r_iret rfl dX9_sand_32 h hE
theorem coX9_sand (σ : Mem) (a1 : Int32) (a2 : Int32) (a3 : Int32) (a4 : Int32) (r : Int32) (σ2 : Mem) (h : FX9_sand σ a1 a2 a3 a4 = some (r, σ2)) : Con SM 6 yX9_sand cX9_sand 10 (some .int) (fun ad => [.ref (ad 0), .int a1, .int a2, .int a3, .int a4]) σ (fun _ => some (.int r)) σ2 :=
  con_of (by decide +kernel) (fun _ => Nat.le_of_ble_eq_true rfl) (fun X hE => eX9_sand (out := (r, σ2)) hE σ a1 a2 a3 a4 h)
-- IceYardModel sheet
abbrev mX9_sheet : MD := (cX9_sheet, RX9, 5, (some .int), 3)
noncomputable def BX9_sheet_65 (rl65 : Mem → Int32 → Int32 → Int32 → Option (Int32 × Mem)) (σ : Mem) (x1 : Int32) (x3 : Int32) (x4 : Int32) : Option (Int32 × Mem) :=
  if x3 ≤ x4 then
  (bi (FX9_refused σ (1 : Int32)) fun r20 σ19 =>
  some (r20, σ19))
  else
  (stI σ 30 240 (((60 : Int32) * x1) + x4) (0 : Int32) fun σ21 =>
  nm (x4 + (1 : Int32)) fun x_22 =>
  rl65 σ21 x1 x3 x_22)
set_option maxHeartbeats 4000000 in
set_option maxRecDepth 100000 in
theorem jX9_sheet_65 {X : CX} {out : Int32 × Mem} (hE : Ends X SM (some (.int out.1)) out.2) (rl65 : Mem → Int32 → Int32 → Int32 → Option (Int32 × Mem)) (hr65 : ∀ (σ : Mem) (x1 : Int32) (x3 : Int32) (x4 : Int32), rl65 σ x1 x3 x4 = some out → J X SM mX9_sheet σ 65 [(0, .ref (xad X 0)), (1, .int x1), (3, .int x3), (4, .int x4)] []) (σ : Mem) (x1 : Int32) (x3 : Int32) (x4 : Int32) (h : BX9_sheet_65 rl65 σ x1 x3 x4 = some out) : J X SM mX9_sheet σ 65 [(0, .ref (xad X 0)), (1, .int x1), (3, .int x3), (4, .int x4)] [] := by
  refine r_iload 3 dX9_sheet_65 rfl rfl ?_
  refine r_iload_n 2 dX9_sheet_67 rfl rfl rfl ?_
  refine r_icmp_ge dX9_sheet_68 rfl rfl h (fun c h => ?_) (fun c h => ?_)
  · refine r_aload_n 0 dX9_sheet_90 rfl rfl rfl ?_
    refine r_iconst dX9_sheet_91 rfl ki_1 ?_
    obtain ⟨r20, σ19, hc, h⟩ := bi_of h
    refine r_callV [.int (1 : Int32)] [] [.int r20]  (coX9_refused σ (1 : Int32) r20 σ19 hc) mv_RX9_163 (by decide) rfl rfl rfl rfl rfl (Nat.le_of_ble_eq_true rfl) rfl dX9_sheet_92 rfl ?_
    exact r_iret rfl dX9_sheet_95 h hE
  · refine r_aload_n 0 dX9_sheet_71 rfl rfl rfl ?_
    refine r_getR fg_RX9_99 rfl rfl dX9_sheet_72 rfl ?_
    refine r_bipush dX9_sheet_75 rfl kb_60 ?_
    refine r_iload_n 1 dX9_sheet_77 rfl rfl rfl ?_
    refine r_imul dX9_sheet_78 rfl ?_
    refine r_iload 3 dX9_sheet_79 rfl rfl ?_
    refine r_iadd dX9_sheet_81 rfl ?_
    refine r_iconst dX9_sheet_82 rfl ki_0 ?_
    refine r_iast rfl dX9_sheet_83 rfl h (fun σ21 h => ?_)
    refine r_iinc 3 (fun x_22 => [(4, .int x_22), (0, .ref (xad X 0)), (1, .int x1), (3, .int x3)]) dX9_sheet_84 rfl rfl ki_1 (show 4 < 5 by decide) (fun _ => rfl) h (fun x_22 h => ?_)
    refine r_goto dX9_sheet_87 rfl ?_
    refine r_sub [1, 2, 3, 0] rfl ?_
    exact hr65 σ21 x1 x3 x_22 h
noncomputable def FX9_sheet_65 (n : Nat) : Mem → Int32 → Int32 → Int32 → Option (Int32 × Mem) :=
  Nat.rec (fun _ _ _ _ => none) (fun _ ih => BX9_sheet_65 ih) n
theorem lX9_sheet_65 {X : CX} {out : Int32 × Mem} (hE : Ends X SM (some (.int out.1)) out.2) : ∀ (n : Nat) (σ : Mem) (x1 : Int32) (x3 : Int32) (x4 : Int32), FX9_sheet_65 n σ x1 x3 x4 = some out → J X SM mX9_sheet σ 65 [(0, .ref (xad X 0)), (1, .int x1), (3, .int x3), (4, .int x4)] [] := by
  intro n
  induction n with
  | zero => intro σ x1 x3 x4 h; exact nn h
  | succ n ih => intro σ x1 x3 x4 h; exact jX9_sheet_65 hE (FX9_sheet_65 n) ih σ x1 x3 x4 h
noncomputable def FX9_sheet (σ : Mem) (a1 : Int32) (a2 : Int32) (a3 : Int32) : Option (Int32 × Mem) :=
  bi (FX9_noSheet σ a1) fun r24 σ23 =>
  if r24 = 0 then
  (bi (FX9_in σ23 ((a2).toInt64) (0 : Int64) (2 : Int64)) fun r26 σ25 =>
  if r26 = 0 then
  (bi (FX9_refused σ25 (-2 : Int32)) fun r28 σ27 =>
  some (r28, σ27))
  else
  (if a3 ≤ (60 : Int32) then
  (if 0 ≤ a3 then
  (stI σ25 28 4 a1 a3 fun σ29 =>
  stI σ29 29 4 a1 a2 fun σ30 =>
  FX9_sheet_65 FU σ30 a1 a3 (0 : Int32))
  else
  (bi (FX9_failed σ25 (4 : Int32)) fun r32 σ31 =>
  some (r32, σ31)))
  else
  (bi (FX9_refused σ25 (-2 : Int32)) fun r34 σ33 =>
  some (r34, σ33))))
  else
  (bi (FX9_refused σ23 (-1 : Int32)) fun r36 σ35 =>
  some (r36, σ35))
set_option maxHeartbeats 4000000 in
set_option maxRecDepth 100000 in
theorem eX9_sheet {X : CX} {out : Int32 × Mem} (hE : Ends X SM (some (.int out.1)) out.2) (σ : Mem) (a1 : Int32) (a2 : Int32) (a3 : Int32) (h : FX9_sheet σ a1 a2 a3 = some out) : J X SM mX9_sheet σ 0 [(0, .ref (xad X 0)), (1, .int a1), (2, .int a2), (3, .int a3)] [] := by
  refine r_iload_n 1 dX9_sheet_0 rfl rfl rfl ?_
  obtain ⟨r24, σ23, hc, h⟩ := bi_of h
  refine r_callS [] [.int r24]  (coX9_noSheet σ a1 r24 σ23 hc) ms_RX9_159 (by decide) rfl rfl (Nat.le_of_ble_eq_true rfl) rfl dX9_sheet_1 rfl ?_
  refine r_if_eq dX9_sheet_4 rfl rfl h (fun c h => ?_) (fun c h => ?_)
  · refine r_iload_n 2 dX9_sheet_13 rfl rfl rfl ?_
    refine r_i2l dX9_sheet_14 rfl ?_
    refine r_lconst dX9_sheet_15 rfl kl_0 ?_
    refine r_ldc2 dX9_sheet_16 rfl cl_RX9_166 ?_
    obtain ⟨r26, σ25, hc, h⟩ := bi_of h
    refine r_callS [] [.int r26]  (coX9_in σ23 ((a2).toInt64) (0 : Int64) (2 : Int64) r26 σ25 hc) ms_RX9_142 (by decide) rfl rfl (Nat.le_of_ble_eq_true rfl) rfl dX9_sheet_19 rfl ?_
    refine r_if_eq dX9_sheet_22 rfl rfl h (fun c h => ?_) (fun c h => ?_)
    · refine r_aload_n 0 dX9_sheet_31 rfl rfl rfl ?_
      refine r_bipush dX9_sheet_32 rfl kb_m2 ?_
      obtain ⟨r28, σ27, hc, h⟩ := bi_of h
      refine r_callV [.int (-2 : Int32)] [] [.int r28]  (coX9_refused σ25 (-2 : Int32) r28 σ27 hc) mv_RX9_163 (by decide) rfl rfl rfl rfl rfl (Nat.le_of_ble_eq_true rfl) rfl dX9_sheet_34 rfl ?_
      exact r_iret rfl dX9_sheet_37 h hE
    · refine r_iload_n 3 dX9_sheet_25 rfl rfl rfl ?_
      refine r_bipush dX9_sheet_26 rfl kb_60 ?_
      refine r_icmp_le dX9_sheet_28 rfl rfl h (fun c h => ?_) (fun c h => ?_)
      · refine r_iload_n 3 dX9_sheet_38 rfl rfl rfl ?_
        refine r_if_ge dX9_sheet_39 rfl rfl h (fun c h => ?_) (fun c h => ?_)
        · refine r_aload_n 0 dX9_sheet_48 rfl rfl rfl ?_
          refine r_getR fg_RX9_93 rfl rfl dX9_sheet_49 rfl ?_
          refine r_iload_n 1 dX9_sheet_52 rfl rfl rfl ?_
          refine r_iload_n 3 dX9_sheet_53 rfl rfl rfl ?_
          refine r_iast rfl dX9_sheet_54 rfl h (fun σ29 h => ?_)
          refine r_aload_n 0 dX9_sheet_55 rfl rfl rfl ?_
          refine r_getR fg_RX9_96 rfl rfl dX9_sheet_56 rfl ?_
          refine r_iload_n 1 dX9_sheet_59 rfl rfl rfl ?_
          refine r_iload_n 2 dX9_sheet_60 rfl rfl rfl ?_
          refine r_iast rfl dX9_sheet_61 rfl h (fun σ30 h => ?_)
          refine r_iconst dX9_sheet_62 rfl ki_0 ?_
          refine r_istoreV [(4, .int (0 : Int32)), (0, .ref (xad X 0)), (1, .int a1), (2, .int a2), (3, .int a3)] dX9_sheet_63 rfl (show 4 < 5 by decide) rfl ?_
          refine r_sub [1, 2, 4, 0] rfl ?_
          exact lX9_sheet_65 hE FU σ30 a1 a3 (0 : Int32) h
        · refine r_aload_n 0 dX9_sheet_42 rfl rfl rfl ?_
          refine r_iconst dX9_sheet_43 rfl ki_4 ?_
          obtain ⟨r32, σ31, hc, h⟩ := bi_of h
          refine r_callV [.int (4 : Int32)] [] [.int r32]  (coX9_failed σ25 (4 : Int32) r32 σ31 hc) mv_RX9_168 (by decide) rfl rfl rfl rfl rfl (Nat.le_of_ble_eq_true rfl) rfl dX9_sheet_44 rfl ?_
          exact r_iret rfl dX9_sheet_47 h hE
      · refine r_aload_n 0 dX9_sheet_31 rfl rfl rfl ?_
        refine r_bipush dX9_sheet_32 rfl kb_m2 ?_
        obtain ⟨r34, σ33, hc, h⟩ := bi_of h
        refine r_callV [.int (-2 : Int32)] [] [.int r34]  (coX9_refused σ25 (-2 : Int32) r34 σ33 hc) mv_RX9_163 (by decide) rfl rfl rfl rfl rfl (Nat.le_of_ble_eq_true rfl) rfl dX9_sheet_34 rfl ?_
        exact r_iret rfl dX9_sheet_37 h hE
  · refine r_aload_n 0 dX9_sheet_7 rfl rfl rfl ?_
    refine r_iconst dX9_sheet_8 rfl ki_m1 ?_
    obtain ⟨r36, σ35, hc, h⟩ := bi_of h
    refine r_callV [.int (-1 : Int32)] [] [.int r36]  (coX9_refused σ23 (-1 : Int32) r36 σ35 hc) mv_RX9_163 (by decide) rfl rfl rfl rfl rfl (Nat.le_of_ble_eq_true rfl) rfl dX9_sheet_9 rfl ?_
    exact r_iret rfl dX9_sheet_12 h hE
theorem coX9_sheet (σ : Mem) (a1 : Int32) (a2 : Int32) (a3 : Int32) (r : Int32) (σ2 : Mem) (h : FX9_sheet σ a1 a2 a3 = some (r, σ2)) : Con SM 3 yX9_sheet cX9_sheet 5 (some .int) (fun ad => [.ref (ad 0), .int a1, .int a2, .int a3]) σ (fun _ => some (.int r)) σ2 :=
  con_of (by decide +kernel) (fun _ => Nat.le_of_ble_eq_true rfl) (fun X hE => eX9_sheet (out := (r, σ2)) hE σ a1 a2 a3 h)
-- IceYardModel tell
abbrev mX9_tell : MD := (cX9_tell, RX9, 4, (some .int), 3)
noncomputable def FX9_tell_51 (σ : Mem) (x1 : Int32) (x2 : Int32) : Option (Int32 × Mem) :=
  rd x1 6 fun j12 =>
  nm (σ.1 3 j12) fun x_13 =>
  if x2 = 0 then
  (some (x_13, σ))
  else
  (if x2 = (1 : Int32) then
  (some ((x_13 + (100 : Int32)), σ))
  else
  (some ((((2 : Int32) * x_13) + (100 : Int32)), σ)))
set_option maxHeartbeats 4000000 in
set_option maxRecDepth 100000 in
theorem jX9_tell_51 {X : CX} {out : Int32 × Mem} (hE : Ends X SM (some (.int out.1)) out.2) (σ : Mem) (x1 : Int32) (x2 : Int32) (h : FX9_tell_51 σ x1 x2 = some out) : J X SM mX9_tell σ 51 [(0, .ref (xad X 0)), (1, .int x1), (2, .int x2)] [] := by
  refine r_aload_n 0 dX9_tell_51 rfl rfl rfl ?_
  refine r_getR fg_RX9_16 rfl rfl dX9_tell_52 rfl ?_
  refine r_iload_n 1 dX9_tell_55 rfl rfl rfl ?_
  refine r_iald rfl dX9_tell_56 rfl h (fun j12 h => ?_)
  refine r_istore_n (fun x_13 => [(3, .int x_13), (0, .ref (xad X 0)), (1, .int x1), (2, .int x2)]) dX9_tell_57 rfl rfl (show 3 < 4 by decide) (fun _ => rfl) h (fun x_13 h => ?_)
  refine r_iload_n 3 dX9_tell_58 rfl rfl rfl ?_
  refine r_if_ne dX9_tell_59 rfl rfl h (fun c h => ?_) (fun c h => ?_)
  · refine r_iload_n 3 dX9_tell_66 rfl rfl rfl ?_
    refine r_iconst dX9_tell_67 rfl ki_1 ?_
    refine r_icmp_ne dX9_tell_68 rfl rfl h (fun c h => ?_) (fun c h => ?_)
    · refine r_iconst dX9_tell_78 rfl ki_2 ?_
      refine r_iload_n 0 dX9_tell_79 rfl rfl rfl ?_
      refine r_imul dX9_tell_80 rfl ?_
      refine r_bipush dX9_tell_81 rfl kb_100 ?_
      refine r_iadd dX9_tell_83 rfl ?_
      exact r_iret rfl dX9_tell_84 h hE
    · refine r_iload_n 0 dX9_tell_71 rfl rfl rfl ?_
      refine r_bipush dX9_tell_72 rfl kb_100 ?_
      refine r_iadd dX9_tell_74 rfl ?_
      refine r_goto dX9_tell_75 rfl ?_
      exact r_iret rfl dX9_tell_84 h hE
  · refine r_iload_n 0 dX9_tell_62 rfl rfl rfl ?_
    refine r_goto dX9_tell_63 rfl ?_
    exact r_iret rfl dX9_tell_84 h hE
noncomputable def FX9_tell_36 (σ : Mem) (x1 : Int32) (x2 : Int32) : Option (Int32 × Mem) :=
  bv (FX9_traced σ (1 : Int32)) fun σ14 =>
  if x2 = (2 : Int32) then
  (bv (FX9_traced σ14 (1 : Int32)) fun σ15 =>
  FX9_tell_51 σ15 x1 x2)
  else
  (FX9_tell_51 σ14 x1 x2)
set_option maxHeartbeats 4000000 in
set_option maxRecDepth 100000 in
theorem jX9_tell_36 {X : CX} {out : Int32 × Mem} (hE : Ends X SM (some (.int out.1)) out.2) (σ : Mem) (x1 : Int32) (x2 : Int32) (h : FX9_tell_36 σ x1 x2 = some out) : J X SM mX9_tell σ 36 [(0, .ref (xad X 0)), (1, .int x1), (2, .int x2)] [] := by
  refine r_aload_n 0 dX9_tell_36 rfl rfl rfl ?_
  refine r_iconst dX9_tell_37 rfl ki_1 ?_
  obtain ⟨σ14, hc, h⟩ := bv_of h
  refine r_callV [.int (1 : Int32)] [] []  (coX9_traced σ (1 : Int32) σ14 hc) mv_RX9_320 (by decide) rfl rfl rfl rfl rfl (Nat.le_of_ble_eq_true rfl) rfl dX9_tell_38 rfl ?_
  refine r_iload_n 2 dX9_tell_41 rfl rfl rfl ?_
  refine r_iconst dX9_tell_42 rfl ki_2 ?_
  refine r_icmp_ne dX9_tell_43 rfl rfl h (fun c h => ?_) (fun c h => ?_)
  · exact jX9_tell_51 hE σ14 x1 x2 h
  · refine r_aload_n 0 dX9_tell_46 rfl rfl rfl ?_
    refine r_iconst dX9_tell_47 rfl ki_1 ?_
    obtain ⟨σ15, hc, h⟩ := bv_of h
    refine r_callV [.int (1 : Int32)] [] []  (coX9_traced σ14 (1 : Int32) σ15 hc) mv_RX9_320 (by decide) rfl rfl rfl rfl rfl (Nat.le_of_ble_eq_true rfl) rfl dX9_tell_48 rfl ?_
    exact jX9_tell_51 hE σ15 x1 x2 h
noncomputable def FX9_tell (σ : Mem) (a1 : Int32) : Option (Int32 × Mem) :=
  bi (FX9_noBlock σ a1) fun r17 σ16 =>
  if r17 = 0 then
  (rd a1 6 fun j18 =>
  nm (σ16.1 2 j18) fun x_19 =>
  if x_19 = (2 : Int32) then
  (bv (FX9_traced σ16 (3 : Int32)) fun σ21 =>
  if x_19 ≤ 0 then
  (FX9_tell_36 σ21 a1 x_19)
  else
  (bv (FX9_traced σ21 (2 : Int32)) fun σ22 =>
  FX9_tell_36 σ22 a1 x_19))
  else
  (if x_19 ≤ 0 then
  (FX9_tell_36 σ16 a1 x_19)
  else
  (bv (FX9_traced σ16 (2 : Int32)) fun σ20 =>
  FX9_tell_36 σ20 a1 x_19)))
  else
  (some ((-1 : Int32), σ16))
set_option maxHeartbeats 4000000 in
set_option maxRecDepth 100000 in
theorem eX9_tell {X : CX} {out : Int32 × Mem} (hE : Ends X SM (some (.int out.1)) out.2) (σ : Mem) (a1 : Int32) (h : FX9_tell σ a1 = some out) : J X SM mX9_tell σ 0 [(0, .ref (xad X 0)), (1, .int a1)] [] := by
  refine r_aload_n 0 dX9_tell_0 rfl rfl rfl ?_
  refine r_iload_n 1 dX9_tell_1 rfl rfl rfl ?_
  obtain ⟨r17, σ16, hc, h⟩ := bi_of h
  refine r_callV [.int a1] [] [.int r17]  (coX9_noBlock σ a1 r17 σ16 hc) mv_RX9_202 (by decide) rfl rfl rfl rfl rfl (Nat.le_of_ble_eq_true rfl) rfl dX9_tell_2 rfl ?_
  refine r_if_eq dX9_tell_5 rfl rfl h (fun c h => ?_) (fun c h => ?_)
  · refine r_aload_n 0 dX9_tell_10 rfl rfl rfl ?_
    refine r_getR fg_RX9_13 rfl rfl dX9_tell_11 rfl ?_
    refine r_iload_n 1 dX9_tell_14 rfl rfl rfl ?_
    refine r_iald rfl dX9_tell_15 rfl h (fun j18 h => ?_)
    refine r_istore_n (fun x_19 => [(2, .int x_19), (0, .ref (xad X 0)), (1, .int a1)]) dX9_tell_16 rfl rfl (show 2 < 4 by decide) (fun _ => rfl) h (fun x_19 h => ?_)
    refine r_iload_n 0 dX9_tell_17 rfl rfl rfl ?_
    refine r_iconst dX9_tell_18 rfl ki_2 ?_
    refine r_icmp_ne dX9_tell_19 rfl rfl h (fun c h => ?_) (fun c h => ?_)
    · refine r_iload_n 0 dX9_tell_27 rfl rfl rfl ?_
      refine r_if_le dX9_tell_28 rfl rfl h (fun c h => ?_) (fun c h => ?_)
      · refine r_sub [1, 2, 0] rfl ?_
        exact jX9_tell_36 hE σ16 a1 x_19 h
      · refine r_aload_n 1 dX9_tell_31 rfl rfl rfl ?_
        refine r_iconst dX9_tell_32 rfl ki_2 ?_
        obtain ⟨σ20, hc, h⟩ := bv_of h
        refine r_callV [.int (2 : Int32)] [] []  (coX9_traced σ16 (2 : Int32) σ20 hc) mv_RX9_320 (by decide) rfl rfl rfl rfl rfl (Nat.le_of_ble_eq_true rfl) rfl dX9_tell_33 rfl ?_
        refine r_sub [1, 2, 0] rfl ?_
        exact jX9_tell_36 hE σ20 a1 x_19 h
    · refine r_aload_n 1 dX9_tell_22 rfl rfl rfl ?_
      refine r_iconst dX9_tell_23 rfl ki_3 ?_
      obtain ⟨σ21, hc, h⟩ := bv_of h
      refine r_callV [.int (3 : Int32)] [] []  (coX9_traced σ16 (3 : Int32) σ21 hc) mv_RX9_320 (by decide) rfl rfl rfl rfl rfl (Nat.le_of_ble_eq_true rfl) rfl dX9_tell_24 rfl ?_
      refine r_iload_n 0 dX9_tell_27 rfl rfl rfl ?_
      refine r_if_le dX9_tell_28 rfl rfl h (fun c h => ?_) (fun c h => ?_)
      · refine r_sub [1, 2, 0] rfl ?_
        exact jX9_tell_36 hE σ21 a1 x_19 h
      · refine r_aload_n 1 dX9_tell_31 rfl rfl rfl ?_
        refine r_iconst dX9_tell_32 rfl ki_2 ?_
        obtain ⟨σ22, hc, h⟩ := bv_of h
        refine r_callV [.int (2 : Int32)] [] []  (coX9_traced σ21 (2 : Int32) σ22 hc) mv_RX9_320 (by decide) rfl rfl rfl rfl rfl (Nat.le_of_ble_eq_true rfl) rfl dX9_tell_33 rfl ?_
        refine r_sub [1, 2, 0] rfl ?_
        exact jX9_tell_36 hE σ22 a1 x_19 h
  · refine r_iconst dX9_tell_8 rfl ki_m1 ?_
    exact r_iret rfl dX9_tell_9 h hE
theorem coX9_tell (σ : Mem) (a1 : Int32) (r : Int32) (σ2 : Mem) (h : FX9_tell σ a1 = some (r, σ2)) : Con SM 3 yX9_tell cX9_tell 4 (some .int) (fun ad => [.ref (ad 0), .int a1]) σ (fun _ => some (.int r)) σ2 :=
  con_of (by decide +kernel) (fun _ => Nat.le_of_ble_eq_true rfl) (fun X hE => eX9_tell (out := (r, σ2)) hE σ a1 h)
-- IceYardModel thaw
abbrev mX9_thaw : MD := (cX9_thaw, RX9, 5, (some .int), 2)
noncomputable def FX9_thaw_57 (rl19 : Mem → Int32 → Int32 → Int32 → Option (Int32 × Mem)) (σ : Mem) (x1 : Int32) (x2 : Int32) (x3 : Int32) (s0 : Int32) : Option (Int32 × Mem) :=
  if x1 < ((2 : Int32) * s0) then
  (nm (x2 ||| (0 : Int32)) fun x_9 =>
  nm (x3 + (1 : Int32)) fun x_10 =>
  rl19 σ x1 x_9 x_10)
  else
  (nm (x2 ||| ((1 : Int32) <<< (x3 &&& 31))) fun x_11 =>
  nm (x3 + (1 : Int32)) fun x_12 =>
  rl19 σ x1 x_11 x_12)
set_option maxHeartbeats 4000000 in
set_option maxRecDepth 100000 in
theorem jX9_thaw_57 {X : CX} {out : Int32 × Mem} (hE : Ends X SM (some (.int out.1)) out.2) (rl19 : Mem → Int32 → Int32 → Int32 → Option (Int32 × Mem)) (hr19 : ∀ (σ : Mem) (x1 : Int32) (x2 : Int32) (x3 : Int32), rl19 σ x1 x2 x3 = some out → J X SM mX9_thaw σ 19 [(0, .ref (xad X 0)), (1, .int x1), (2, .int x2), (3, .int x3)] []) (σ : Mem) (x1 : Int32) (x2 : Int32) (x3 : Int32) (s0 : Int32) (h : FX9_thaw_57 rl19 σ x1 x2 x3 s0 = some out) : J X SM mX9_thaw σ 57 [(0, .ref (xad X 0)), (1, .int x1), (2, .int x2), (3, .int x3)] [.int s0] := by
  refine r_istoreV [(4, .int s0), (0, .ref (xad X 0)), (1, .int x1), (2, .int x2), (3, .int x3)] dX9_thaw_57 rfl (show 4 < 5 by decide) rfl ?_
  refine r_iload_n 3 dX9_thaw_59 rfl rfl rfl ?_
  refine r_iconst dX9_thaw_60 rfl ki_2 ?_
  refine r_iload 0 dX9_thaw_61 rfl rfl ?_
  refine r_imul dX9_thaw_63 rfl ?_
  refine r_iload_n 2 dX9_thaw_64 rfl rfl rfl ?_
  refine r_icmp_gt dX9_thaw_65 rfl rfl h (fun c h => ?_) (fun c h => ?_)
  · refine r_iconst dX9_thaw_74 rfl ki_0 ?_
    refine r_ior dX9_thaw_75 rfl ?_
    refine r_istore_n (fun x_9 => [(2, .int x_9), (4, .int s0), (0, .ref (xad X 0)), (1, .int x1), (3, .int x3)]) dX9_thaw_76 rfl rfl (show 2 < 5 by decide) (fun _ => rfl) h (fun x_9 h => ?_)
    refine r_iinc 4 (fun x_10 => [(3, .int x_10), (2, .int x_9), (4, .int s0), (0, .ref (xad X 0)), (1, .int x1)]) dX9_thaw_77 rfl rfl ki_1 (show 3 < 5 by decide) (fun _ => rfl) h (fun x_10 h => ?_)
    refine r_goto dX9_thaw_80 rfl ?_
    refine r_sub [3, 4, 1, 0] rfl ?_
    exact hr19 σ x1 x_9 x_10 h
  · refine r_iconst dX9_thaw_68 rfl ki_1 ?_
    refine r_iload_n 4 dX9_thaw_69 rfl rfl rfl ?_
    refine r_ishl dX9_thaw_70 rfl ?_
    refine r_goto dX9_thaw_71 rfl ?_
    refine r_ior dX9_thaw_75 rfl ?_
    refine r_istore_n (fun x_11 => [(2, .int x_11), (4, .int s0), (0, .ref (xad X 0)), (1, .int x1), (3, .int x3)]) dX9_thaw_76 rfl rfl (show 2 < 5 by decide) (fun _ => rfl) h (fun x_11 h => ?_)
    refine r_iinc 4 (fun x_12 => [(3, .int x_12), (2, .int x_11), (4, .int s0), (0, .ref (xad X 0)), (1, .int x1)]) dX9_thaw_77 rfl rfl ki_1 (show 3 < 5 by decide) (fun _ => rfl) h (fun x_12 h => ?_)
    refine r_goto dX9_thaw_80 rfl ?_
    refine r_sub [3, 4, 1, 0] rfl ?_
    exact hr19 σ x1 x_11 x_12 h
noncomputable def BX9_thaw_19 (rl19 : Mem → Int32 → Int32 → Int32 → Option (Int32 × Mem)) (σ : Mem) (x1 : Int32) (x2 : Int32) (x3 : Int32) : Option (Int32 × Mem) :=
  if (σ.1 0 3) ≤ x3 then
  (some (x2, σ))
  else
  (rd x3 6 fun j13 =>
  if 0 ≤ (σ.1 4 j13) then
  (rd x3 6 fun j14 =>
  dzI (σ.1 0 2) <|
  FX9_thaw_57 rl19 σ x1 x2 x3 ((σ.1 0 1) - ((σ.1 4 j14) / (σ.1 0 2))))
  else
  (FX9_thaw_57 rl19 σ x1 x2 x3 (99 : Int32)))
set_option maxHeartbeats 4000000 in
set_option maxRecDepth 100000 in
theorem jX9_thaw_19 {X : CX} {out : Int32 × Mem} (hE : Ends X SM (some (.int out.1)) out.2) (rl19 : Mem → Int32 → Int32 → Int32 → Option (Int32 × Mem)) (hr19 : ∀ (σ : Mem) (x1 : Int32) (x2 : Int32) (x3 : Int32), rl19 σ x1 x2 x3 = some out → J X SM mX9_thaw σ 19 [(0, .ref (xad X 0)), (1, .int x1), (2, .int x2), (3, .int x3)] []) (σ : Mem) (x1 : Int32) (x2 : Int32) (x3 : Int32) (h : BX9_thaw_19 rl19 σ x1 x2 x3 = some out) : J X SM mX9_thaw σ 19 [(0, .ref (xad X 0)), (1, .int x1), (2, .int x2), (3, .int x3)] [] := by
  refine r_iload_n 3 dX9_thaw_19 rfl rfl rfl ?_
  refine r_aload_n 0 dX9_thaw_20 rfl rfl rfl ?_
  refine r_getI fg_RX9_179 rfl rfl dX9_thaw_21 rfl ?_
  refine r_icmp_ge dX9_thaw_24 rfl rfl h (fun c h => ?_) (fun c h => ?_)
  · refine r_iload_n 2 dX9_thaw_83 rfl rfl rfl ?_
    exact r_iret rfl dX9_thaw_84 h hE
  · refine r_aload_n 0 dX9_thaw_27 rfl rfl rfl ?_
    refine r_getR fg_RX9_19 rfl rfl dX9_thaw_28 rfl ?_
    refine r_iload_n 3 dX9_thaw_31 rfl rfl rfl ?_
    refine r_iald rfl dX9_thaw_32 rfl h (fun j13 h => ?_)
    refine r_if_ge dX9_thaw_33 rfl rfl h (fun c h => ?_) (fun c h => ?_)
    · refine r_aload_n 0 dX9_thaw_41 rfl rfl rfl ?_
      refine r_getI fg_RX9_115 rfl rfl dX9_thaw_42 rfl ?_
      refine r_aload_n 0 dX9_thaw_45 rfl rfl rfl ?_
      refine r_getR fg_RX9_19 rfl rfl dX9_thaw_46 rfl ?_
      refine r_iload_n 3 dX9_thaw_49 rfl rfl rfl ?_
      refine r_iald rfl dX9_thaw_50 rfl h (fun j14 h => ?_)
      refine r_aload_n 0 dX9_thaw_51 rfl rfl rfl ?_
      refine r_getI fg_RX9_118 rfl rfl dX9_thaw_52 rfl ?_
      refine r_idiv dX9_thaw_55 rfl h (fun h => ?_)
      refine r_isub dX9_thaw_56 rfl ?_
      exact jX9_thaw_57 hE rl19 hr19 σ x1 x2 x3 ((σ.1 0 1) - ((σ.1 4 j14) / (σ.1 0 2))) h
    · refine r_bipush dX9_thaw_36 rfl kb_99 ?_
      refine r_goto dX9_thaw_38 rfl ?_
      exact jX9_thaw_57 hE rl19 hr19 σ x1 x2 x3 (99 : Int32) h
noncomputable def FX9_thaw_19 (n : Nat) : Mem → Int32 → Int32 → Int32 → Option (Int32 × Mem) :=
  Nat.rec (fun _ _ _ _ => none) (fun _ ih => BX9_thaw_19 ih) n
theorem lX9_thaw_19 {X : CX} {out : Int32 × Mem} (hE : Ends X SM (some (.int out.1)) out.2) : ∀ (n : Nat) (σ : Mem) (x1 : Int32) (x2 : Int32) (x3 : Int32), FX9_thaw_19 n σ x1 x2 x3 = some out → J X SM mX9_thaw σ 19 [(0, .ref (xad X 0)), (1, .int x1), (2, .int x2), (3, .int x3)] [] := by
  intro n
  induction n with
  | zero => intro σ x1 x2 x3 h; exact nn h
  | succ n ih => intro σ x1 x2 x3 h; exact jX9_thaw_19 hE (FX9_thaw_19 n) ih σ x1 x2 x3 h
noncomputable def FX9_thaw (σ : Mem) (a1 : Int32) : Option (Int32 × Mem) :=
  bi (FX9_in σ ((a1).toInt64) (0 : Int64) (20 : Int64)) fun r16 σ15 =>
  if r16 = 0 then
  (some ((-2 : Int32), σ15))
  else
  (FX9_thaw_19 FU σ15 a1 (0 : Int32) (0 : Int32))
set_option maxHeartbeats 4000000 in
set_option maxRecDepth 100000 in
theorem eX9_thaw {X : CX} {out : Int32 × Mem} (hE : Ends X SM (some (.int out.1)) out.2) (σ : Mem) (a1 : Int32) (h : FX9_thaw σ a1 = some out) : J X SM mX9_thaw σ 0 [(0, .ref (xad X 0)), (1, .int a1)] [] := by
  refine r_iload_n 1 dX9_thaw_0 rfl rfl rfl ?_
  refine r_i2l dX9_thaw_1 rfl ?_
  refine r_lconst dX9_thaw_2 rfl kl_0 ?_
  refine r_ldc2 dX9_thaw_3 rfl cl_RX9_308 ?_
  obtain ⟨r16, σ15, hc, h⟩ := bi_of h
  refine r_callS [] [.int r16]  (coX9_in σ ((a1).toInt64) (0 : Int64) (20 : Int64) r16 σ15 hc) ms_RX9_142 (by decide) rfl rfl (Nat.le_of_ble_eq_true rfl) rfl dX9_thaw_6 rfl ?_
  refine r_if_ne dX9_thaw_9 rfl rfl h (fun c h => ?_) (fun c h => ?_)
  · refine r_iconst dX9_thaw_15 rfl ki_0 ?_
    refine r_istoreV_n [(2, .int (0 : Int32)), (0, .ref (xad X 0)), (1, .int a1)] dX9_thaw_16 rfl rfl (show 2 < 5 by decide) rfl ?_
    refine r_iconst dX9_thaw_17 rfl ki_0 ?_
    refine r_istoreV_n [(3, .int (0 : Int32)), (2, .int (0 : Int32)), (0, .ref (xad X 0)), (1, .int a1)] dX9_thaw_18 rfl rfl (show 3 < 5 by decide) rfl ?_
    refine r_sub [2, 3, 1, 0] rfl ?_
    exact lX9_thaw_19 hE FU σ15 a1 (0 : Int32) (0 : Int32) h
  · refine r_bipush dX9_thaw_12 rfl kb_m2 ?_
    exact r_iret rfl dX9_thaw_14 h hE
theorem coX9_thaw (σ : Mem) (a1 : Int32) (r : Int32) (σ2 : Mem) (h : FX9_thaw σ a1 = some (r, σ2)) : Con SM 2 yX9_thaw cX9_thaw 5 (some .int) (fun ad => [.ref (ad 0), .int a1]) σ (fun _ => some (.int r)) σ2 :=
  con_of (by decide +kernel) (fun _ => Nat.le_of_ble_eq_true rfl) (fun X hE => eX9_thaw (out := (r, σ2)) hE σ a1 h)
-- IceYardModel trace
abbrev mX9_trace : MD := (cX9_trace, RX9, 1, (some .int), 1)
noncomputable def FX9_trace (σ : Mem) : Option (Int32 × Mem) :=
  some ((σ.1 0 51), σ)
set_option maxHeartbeats 4000000 in
set_option maxRecDepth 100000 in
theorem eX9_trace {X : CX} {out : Int32 × Mem} (hE : Ends X SM (some (.int out.1)) out.2) (σ : Mem) (h : FX9_trace σ = some out) : J X SM mX9_trace σ 0 [(0, .ref (xad X 0))] [] := by
  refine r_aload_n 0 dX9_trace_0 rfl rfl rfl ?_
  refine r_getI fg_RX9_317 rfl rfl dX9_trace_1 rfl ?_
  exact r_iret rfl dX9_trace_4 h hE
theorem coX9_trace (σ : Mem) (r : Int32) (σ2 : Mem) (h : FX9_trace σ = some (r, σ2)) : Con SM 1 yX9_trace cX9_trace 1 (some .int) (fun ad => [.ref (ad 0)]) σ (fun _ => some (.int r)) σ2 :=
  con_of (by decide +kernel) (fun _ => Nat.le_of_ble_eq_true rfl) (fun X hE => eX9_trace (out := (r, σ2)) hE σ h)

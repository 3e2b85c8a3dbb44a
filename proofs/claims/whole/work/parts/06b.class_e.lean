-- IceYard$Ground layBlock
abbrev mX1_layBlock : MD := (cX1_layBlock, RX1, 3, none, 1)
noncomputable def FX1_layBlock (σ : Mem) (a1 : Int32) (a2 : Int32) : Option (Mem) :=
  if a2 < 0 then
  (some σ)
  else
  (if (6 : Int32) ≤ (σ.1 1 6) then
  (some σ)
  else
  (stI σ 18 6 (σ.1 1 6) a2 fun σ4 =>
  stI σ4 19 6 (σ4.1 1 6) a1 fun σ5 =>
  nm (setI σ5 1 6 ((σ5.1 1 6) + (1 : Int32))) fun σ6 =>
  some σ6))
set_option maxHeartbeats 4000000 in
set_option maxRecDepth 100000 in
theorem eX1_layBlock {X : CX} {out : Mem} (hE : Ends X SX none out) (σ : Mem) (a1 : Int32) (a2 : Int32) (h : FX1_layBlock σ a1 a2 = some out) : J X SX mX1_layBlock σ 0 [(0, .ref (xad X 1)), (1, .int a1), (2, .int a2)] [] := by
  refine r_iload_n 2 dX1_layBlock_0 rfl rfl rfl ?_
  refine r_if_lt dX1_layBlock_1 rfl rfl h (fun c h => ?_) (fun c h => ?_)
  · exact r_vret rfl dX1_layBlock_43 h hE
  · refine r_aload_n 0 dX1_layBlock_4 rfl rfl rfl ?_
    refine r_getI fg_RX1_31 rfl rfl dX1_layBlock_5 rfl ?_
    refine r_bipush dX1_layBlock_8 rfl kb_6 ?_
    refine r_icmp_ge dX1_layBlock_10 rfl rfl h (fun c h => ?_) (fun c h => ?_)
    · exact r_vret rfl dX1_layBlock_43 h hE
    · refine r_aload_n 0 dX1_layBlock_13 rfl rfl rfl ?_
      refine r_getR fg_RX1_9 rfl rfl dX1_layBlock_14 rfl ?_
      refine r_aload_n 0 dX1_layBlock_17 rfl rfl rfl ?_
      refine r_getI fg_RX1_31 rfl rfl dX1_layBlock_18 rfl ?_
      refine r_iload_n 2 dX1_layBlock_21 rfl rfl rfl ?_
      refine r_iast rfl dX1_layBlock_22 rfl h (fun σ4 h => ?_)
      refine r_aload_n 0 dX1_layBlock_23 rfl rfl rfl ?_
      refine r_getR fg_RX1_15 rfl rfl dX1_layBlock_24 rfl ?_
      refine r_aload_n 0 dX1_layBlock_27 rfl rfl rfl ?_
      refine r_getI fg_RX1_31 rfl rfl dX1_layBlock_28 rfl ?_
      refine r_iload_n 1 dX1_layBlock_31 rfl rfl rfl ?_
      refine r_iast rfl dX1_layBlock_32 rfl h (fun σ5 h => ?_)
      refine r_aload_n 0 dX1_layBlock_33 rfl rfl rfl ?_
      refine r_dup dX1_layBlock_34 rfl rfl ?_
      refine r_getI fg_RX1_31 rfl rfl dX1_layBlock_35 rfl ?_
      refine r_iconst dX1_layBlock_38 rfl ki_1 ?_
      refine r_iadd dX1_layBlock_39 rfl ?_
      refine r_putI fp_RX1_31 rfl rfl dX1_layBlock_40 rfl h (fun σ6 h => ?_)
      exact r_vret rfl dX1_layBlock_43 h hE
theorem coX1_layBlock (σ : Mem) (a1 : Int32) (a2 : Int32) (σ2 : Mem) (h : FX1_layBlock σ a1 a2 = some σ2) : Con SX 1 yX1_layBlock cX1_layBlock 3 none (fun ad => [.ref (ad 1), .int a1, .int a2]) σ (fun _ => none) σ2 :=
  con_of (by decide +kernel) (fun _ => Nat.le_of_ble_eq_true rfl) (fun X hE => eX1_layBlock (out := σ2) hE σ a1 a2 h)
-- IceYard$Ground layCrack
abbrev mX1_layCrack : MD := (cX1_layCrack, RX1, 2, none, 1)
noncomputable def FX1_layCrack (σ : Mem) (a1 : Int32) : Option (Mem) :=
  if (4 : Int32) ≤ (σ.1 1 7) then
  (some σ)
  else
  (stI σ 20 4 (σ.1 1 7) a1 fun σ3 =>
  nm (setI σ3 1 7 ((σ3.1 1 7) + (1 : Int32))) fun σ4 =>
  some σ4)
set_option maxHeartbeats 4000000 in
set_option maxRecDepth 100000 in
theorem eX1_layCrack {X : CX} {out : Mem} (hE : Ends X SX none out) (σ : Mem) (a1 : Int32) (h : FX1_layCrack σ a1 = some out) : J X SX mX1_layCrack σ 0 [(0, .ref (xad X 1)), (1, .int a1)] [] := by
  refine r_aload_n 0 dX1_layCrack_0 rfl rfl rfl ?_
  refine r_getI fg_RX1_44 rfl rfl dX1_layCrack_1 rfl ?_
  refine r_iconst dX1_layCrack_4 rfl ki_4 ?_
  refine r_icmp_ge dX1_layCrack_5 rfl rfl h (fun c h => ?_) (fun c h => ?_)
  · exact r_vret rfl dX1_layCrack_28 h hE
  · refine r_aload_n 0 dX1_layCrack_8 rfl rfl rfl ?_
    refine r_getR fg_RX1_18 rfl rfl dX1_layCrack_9 rfl ?_
    refine r_aload_n 0 dX1_layCrack_12 rfl rfl rfl ?_
    refine r_getI fg_RX1_44 rfl rfl dX1_layCrack_13 rfl ?_
    refine r_iload_n 1 dX1_layCrack_16 rfl rfl rfl ?_
    refine r_iast rfl dX1_layCrack_17 rfl h (fun σ3 h => ?_)
    refine r_aload_n 0 dX1_layCrack_18 rfl rfl rfl ?_
    refine r_dup dX1_layCrack_19 rfl rfl ?_
    refine r_getI fg_RX1_44 rfl rfl dX1_layCrack_20 rfl ?_
    refine r_iconst dX1_layCrack_23 rfl ki_1 ?_
    refine r_iadd dX1_layCrack_24 rfl ?_
    refine r_putI fp_RX1_44 rfl rfl dX1_layCrack_25 rfl h (fun σ4 h => ?_)
    exact r_vret rfl dX1_layCrack_28 h hE
theorem coX1_layCrack (σ : Mem) (a1 : Int32) (σ2 : Mem) (h : FX1_layCrack σ a1 = some σ2) : Con SX 1 yX1_layCrack cX1_layCrack 2 none (fun ad => [.ref (ad 1), .int a1]) σ (fun _ => none) σ2 :=
  con_of (by decide +kernel) (fun _ => Nat.le_of_ble_eq_true rfl) (fun X hE => eX1_layCrack (out := σ2) hE σ a1 h)
-- IceYard$Text kindOfSign
abbrev mX7_kindOfSign : MD := (cX7_kindOfSign, RX7, 1, (some .int), 1)
noncomputable def FX7_kindOfSign (σ : Mem) (a0 : Int32) : Option (Int32 × Mem) :=
  if a0 = (100 : Int32) then
  (some ((2 : Int32), σ))
  else
  (if a0 = (108 : Int32) then
  (some ((1 : Int32), σ))
  else
  (if a0 = (111 : Int32) then
  (some ((0 : Int32), σ))
  else
  (some ((-1 : Int32), σ))))
set_option maxHeartbeats 4000000 in
set_option maxRecDepth 100000 in
theorem eX7_kindOfSign {X : CX} {out : Int32 × Mem} (hE : Ends X SX (some (.int out.1)) out.2) (σ : Mem) (a0 : Int32) (h : FX7_kindOfSign σ a0 = some out) : J X SX mX7_kindOfSign σ 0 [(0, .int a0)] [] := by
  refine r_iload_n 0 dX7_kindOfSign_0 rfl rfl rfl ?_
  refine cpI h (fun c h => ?_) (fun n1_0 h => ?_)
  · refine r_lookup dX7_kindOfSign_1 (by decide) (by rw [c] <;> rfl) rfl ?_
    refine r_iconst dX7_kindOfSign_40 rfl ki_2 ?_
    exact r_iret rfl dX7_kindOfSign_41 h hE
  · refine cpI h (fun c h => ?_) (fun n1_1 h => ?_)
    · refine r_lookup dX7_kindOfSign_1 (by decide) (by rw [c] <;> rfl) rfl ?_
      refine r_iconst dX7_kindOfSign_38 rfl ki_1 ?_
      exact r_iret rfl dX7_kindOfSign_39 h hE
    · refine cpI h (fun c h => ?_) (fun n1_2 h => ?_)
      · refine r_lookup dX7_kindOfSign_1 (by decide) (by rw [c] <;> rfl) rfl ?_
        refine r_iconst dX7_kindOfSign_36 rfl ki_0 ?_
        exact r_iret rfl dX7_kindOfSign_37 h hE
      · refine r_lookup dX7_kindOfSign_1 (by decide) (by show Op.lookupswitch.offset [(100, 39), (108, 37), (111, 35)] (41) _ = _; rw [lv_osw n1_0 (by decide), lv_osw n1_1 (by decide), lv_osw n1_2 (by decide)] <;> rfl) rfl ?_
        refine r_iconst dX7_kindOfSign_42 rfl ki_m1 ?_
        exact r_iret rfl dX7_kindOfSign_43 h hE
theorem coX7_kindOfSign (σ : Mem) (a0 : Int32) (r : Int32) (σ2 : Mem) (h : FX7_kindOfSign σ a0 = some (r, σ2)) : Con SX 1 yX7_kindOfSign cX7_kindOfSign 1 (some .int) (fun ad => [.int a0]) σ (fun _ => some (.int r)) σ2 :=
  con_of (by decide +kernel) (fun _ => Nat.le_of_ble_eq_true rfl) (fun X hE => eX7_kindOfSign (out := (r, σ2)) hE σ a0 h)
-- IceYard$Ground layCell
abbrev mX1_layCell : MD := (cX1_layCell, RX1, 5, none, 2)
noncomputable def FX1_layCell (σ : Mem) (a1 : Int32) (a2 : Int32) : Option (Mem) :=
  nm ((1 : Int64) <<< ((a1).toInt64 &&& 63)) fun x_11 =>
  if a2 = (35 : Int32) then
  (nm (setL σ 1 8 ((σ.2 1 8) ||| x_11)) fun σ12 =>
  some σ12)
  else
  (if a2 = (97 : Int32) then
  (nm (setL σ 1 10 ((σ.2 1 10) ||| x_11)) fun σ13 =>
  some σ13)
  else
  (if a2 = (98 : Int32) then
  (nm (setL σ 1 11 ((σ.2 1 11) ||| x_11)) fun σ14 =>
  some σ14)
  else
  (if a2 = (99 : Int32) then
  (bv (FX1_layCrack σ a1) fun σ15 =>
  some σ15)
  else
  (if a2 = (115 : Int32) then
  (nm (setL σ 1 9 ((σ.2 1 9) ||| x_11)) fun σ16 =>
  some σ16)
  else
  (nm (setL σ 1 12 ((σ.2 1 12) ||| x_11)) fun σ17 =>
  bi (FX7_kindOfSign σ17 a2) fun r19 σ18 =>
  bv (FX1_layBlock σ18 a1 r19) fun σ20 =>
  some σ20)))))
set_option maxHeartbeats 4000000 in
set_option maxRecDepth 100000 in
theorem eX1_layCell {X : CX} {out : Mem} (hE : Ends X SX none out) (σ : Mem) (a1 : Int32) (a2 : Int32) (h : FX1_layCell σ a1 a2 = some out) : J X SX mX1_layCell σ 0 [(0, .ref (xad X 1)), (1, .int a1), (2, .int a2)] [] := by
  refine r_lconst dX1_layCell_0 rfl kl_1 ?_
  refine r_iload_n 1 dX1_layCell_1 rfl rfl rfl ?_
  refine r_lshl dX1_layCell_2 rfl ?_
  refine r_lstore_n (fun x_11 => [(3, .long x_11), (0, .ref (xad X 1)), (1, .int a1), (2, .int a2)]) dX1_layCell_3 rfl rfl (show 3 + 1 < 5 by decide) (fun _ => rfl) h (fun x_11 h => ?_)
  refine r_iload_n 3 dX1_layCell_4 rfl rfl rfl ?_
  refine cpI h (fun c h => ?_) (fun n5_0 h => ?_)
  · refine r_lookup dX1_layCell_5 (by decide) (by rw [c] <;> rfl) rfl ?_
    refine r_aload_n 1 dX1_layCell_56 rfl rfl rfl ?_
    refine r_dup dX1_layCell_57 rfl rfl ?_
    refine r_getL fg_RX1_47 rfl rfl dX1_layCell_58 rfl ?_
    refine r_lload_n 0 dX1_layCell_61 rfl rfl rfl ?_
    refine r_lor dX1_layCell_62 rfl ?_
    refine r_putL fp_RX1_47 rfl rfl dX1_layCell_63 rfl h (fun σ12 h => ?_)
    refine r_goto dX1_layCell_66 rfl ?_
    exact r_vret rfl dX1_layCell_135 h hE
  · refine cpI h (fun c h => ?_) (fun n5_1 h => ?_)
    · refine r_lookup dX1_layCell_5 (by decide) (by rw [c] <;> rfl) rfl ?_
      refine r_aload_n 1 dX1_layCell_82 rfl rfl rfl ?_
      refine r_dup dX1_layCell_83 rfl rfl ?_
      refine r_getL fg_RX1_54 rfl rfl dX1_layCell_84 rfl ?_
      refine r_lload_n 0 dX1_layCell_87 rfl rfl rfl ?_
      refine r_lor dX1_layCell_88 rfl ?_
      refine r_putL fp_RX1_54 rfl rfl dX1_layCell_89 rfl h (fun σ13 h => ?_)
      refine r_goto dX1_layCell_92 rfl ?_
      exact r_vret rfl dX1_layCell_135 h hE
    · refine cpI h (fun c h => ?_) (fun n5_2 h => ?_)
      · refine r_lookup dX1_layCell_5 (by decide) (by rw [c] <;> rfl) rfl ?_
        refine r_aload_n 1 dX1_layCell_95 rfl rfl rfl ?_
        refine r_dup dX1_layCell_96 rfl rfl ?_
        refine r_getL fg_RX1_57 rfl rfl dX1_layCell_97 rfl ?_
        refine r_lload_n 0 dX1_layCell_100 rfl rfl rfl ?_
        refine r_lor dX1_layCell_101 rfl ?_
        refine r_putL fp_RX1_57 rfl rfl dX1_layCell_102 rfl h (fun σ14 h => ?_)
        refine r_goto dX1_layCell_105 rfl ?_
        exact r_vret rfl dX1_layCell_135 h hE
      · refine cpI h (fun c h => ?_) (fun n5_3 h => ?_)
        · refine r_lookup dX1_layCell_5 (by decide) (by rw [c] <;> rfl) rfl ?_
          refine r_aload_n 1 dX1_layCell_108 rfl rfl rfl ?_
          refine r_iload_n 2 dX1_layCell_109 rfl rfl rfl ?_
          obtain ⟨σ15, hc, h⟩ := bv_of h
          refine r_callV [.int a1] [] []  (coX1_layCrack σ a1 σ15 hc) mv_RX1_76 (by decide) rfl rfl rfl rfl rfl (Nat.le_of_ble_eq_true rfl) rfl dX1_layCell_110 rfl ?_
          refine r_goto dX1_layCell_113 rfl ?_
          exact r_vret rfl dX1_layCell_135 h hE
        · refine cpI h (fun c h => ?_) (fun n5_4 h => ?_)
          · refine r_lookup dX1_layCell_5 (by decide) (by rw [c] <;> rfl) rfl ?_
            refine r_aload_n 1 dX1_layCell_69 rfl rfl rfl ?_
            refine r_dup dX1_layCell_70 rfl rfl ?_
            refine r_getL fg_RX1_51 rfl rfl dX1_layCell_71 rfl ?_
            refine r_lload_n 0 dX1_layCell_74 rfl rfl rfl ?_
            refine r_lor dX1_layCell_75 rfl ?_
            refine r_putL fp_RX1_51 rfl rfl dX1_layCell_76 rfl h (fun σ16 h => ?_)
            refine r_goto dX1_layCell_79 rfl ?_
            exact r_vret rfl dX1_layCell_135 h hE
          · refine r_lookup dX1_layCell_5 (by decide) (by show Op.lookupswitch.offset [(35, 51), (97, 77), (98, 90), (99, 103), (115, 64)] (111) _ = _; rw [lv_osw n5_0 (by decide), lv_osw n5_1 (by decide), lv_osw n5_2 (by decide), lv_osw n5_3 (by decide), lv_osw n5_4 (by decide)] <;> rfl) rfl ?_
            refine r_aload_n 1 dX1_layCell_116 rfl rfl rfl ?_
            refine r_dup dX1_layCell_117 rfl rfl ?_
            refine r_getL fg_RX1_60 rfl rfl dX1_layCell_118 rfl ?_
            refine r_lload_n 0 dX1_layCell_121 rfl rfl rfl ?_
            refine r_lor dX1_layCell_122 rfl ?_
            refine r_putL fp_RX1_60 rfl rfl dX1_layCell_123 rfl h (fun σ17 h => ?_)
            refine r_aload_n 1 dX1_layCell_126 rfl rfl rfl ?_
            refine r_iload_n 2 dX1_layCell_127 rfl rfl rfl ?_
            refine r_iload_n 3 dX1_layCell_128 rfl rfl rfl ?_
            obtain ⟨r19, σ18, hc, h⟩ := bi_of h
            refine r_callS [.int a1, .ref (xad X 1)] [.int r19, .int a1, .ref (xad X 1)]  (coX7_kindOfSign σ17 a2 r19 σ18 hc) ms_RX1_80 (by decide) rfl rfl (Nat.le_of_ble_eq_true rfl) rfl dX1_layCell_129 rfl ?_
            obtain ⟨σ20, hc, h⟩ := bv_of h
            refine r_callV [.int a1, .int r19] [] []  (coX1_layBlock σ18 a1 r19 σ20 hc) mv_RX1_83 (by decide) rfl rfl rfl rfl rfl (Nat.le_of_ble_eq_true rfl) rfl dX1_layCell_132 rfl ?_
            exact r_vret rfl dX1_layCell_135 h hE
theorem coX1_layCell (σ : Mem) (a1 : Int32) (a2 : Int32) (σ2 : Mem) (h : FX1_layCell σ a1 a2 = some σ2) : Con SX 2 yX1_layCell cX1_layCell 5 none (fun ad => [.ref (ad 1), .int a1, .int a2]) σ (fun _ => none) σ2 :=
  con_of (by decide +kernel) (fun _ => Nat.le_of_ble_eq_true rfl) (fun X hE => eX1_layCell (out := σ2) hE σ a1 a2 h)
-- IceYard$Ground layWay
abbrev mX1_layWay : MD := (cX1_layWay, RX1, 6, none, 2)
noncomputable def FX1_layWay (σ : Mem) (a1 : Int32) (a2 : Int32) (a3 : Int32) (a4 : Int32) : Option (Mem) :=
  nm ((a1 * (4 : Int32)) + a2) fun x_7 =>
  if x_7 < 0 then
  (some σ)
  else
  (if (144 : Int32) ≤ x_7 then
  (some σ)
  else
  (if a3 = 0 then
  (stI σ 21 144 x_7 (-1 : Int32) fun σ8 =>
  some σ8)
  else
  (bi (FX8_has σ (σ.2 1 8) a4) fun r10 σ9 =>
  if r10 = 0 then
  (stI σ9 21 144 x_7 a4 fun σ12 =>
  some σ12)
  else
  (stI σ9 21 144 x_7 (-1 : Int32) fun σ11 =>
  some σ11))))
set_option maxHeartbeats 4000000 in
set_option maxRecDepth 100000 in
theorem eX1_layWay {X : CX} {out : Mem} (hE : Ends X SX none out) (σ : Mem) (a1 : Int32) (a2 : Int32) (a3 : Int32) (a4 : Int32) (h : FX1_layWay σ a1 a2 a3 a4 = some out) : J X SX mX1_layWay σ 0 [(0, .ref (xad X 1)), (1, .int a1), (2, .int a2), (3, .int a3), (4, .int a4)] [] := by
  refine r_iload_n 1 dX1_layWay_0 rfl rfl rfl ?_
  refine r_iconst dX1_layWay_1 rfl ki_4 ?_
  refine r_imul dX1_layWay_2 rfl ?_
  refine r_iload_n 2 dX1_layWay_3 rfl rfl rfl ?_
  refine r_iadd dX1_layWay_4 rfl ?_
  refine r_istore (fun x_7 => [(5, .int x_7), (0, .ref (xad X 1)), (1, .int a1), (2, .int a2), (3, .int a3), (4, .int a4)]) dX1_layWay_5 rfl (show 5 < 6 by decide) (fun _ => rfl) h (fun x_7 h => ?_)
  refine r_iload 0 dX1_layWay_7 rfl rfl ?_
  refine r_if_lt dX1_layWay_9 rfl rfl h (fun c h => ?_) (fun c h => ?_)
  · exact r_vret rfl dX1_layWay_51 h hE
  · refine r_iload 0 dX1_layWay_12 rfl rfl ?_
    refine r_aload_n 1 dX1_layWay_14 rfl rfl rfl ?_
    refine r_getR fg_RX1_21 rfl rfl dX1_layWay_15 rfl ?_
    refine r_alen rfl (by decide) rfl dX1_layWay_18 rfl ?_
    refine r_icmp_ge dX1_layWay_19 rfl rfl h (fun c h => ?_) (fun c h => ?_)
    · exact r_vret rfl dX1_layWay_51 h hE
    · refine r_aload_n 1 dX1_layWay_22 rfl rfl rfl ?_
      refine r_getR fg_RX1_21 rfl rfl dX1_layWay_23 rfl ?_
      refine r_iload 0 dX1_layWay_26 rfl rfl ?_
      refine r_iload_n 4 dX1_layWay_28 rfl rfl rfl ?_
      refine r_if_eq dX1_layWay_29 rfl rfl h (fun c h => ?_) (fun c h => ?_)
      · refine r_iconst dX1_layWay_49 rfl ki_m1 ?_
        refine r_iast rfl dX1_layWay_50 rfl h (fun σ8 h => ?_)
        exact r_vret rfl dX1_layWay_51 h hE
      · refine r_aload_n 1 dX1_layWay_32 rfl rfl rfl ?_
        refine r_getL fg_RX1_47 rfl rfl dX1_layWay_33 rfl ?_
        refine r_iload 5 dX1_layWay_36 rfl rfl ?_
        obtain ⟨r10, σ9, hc, h⟩ := bi_of h
        refine r_callN [.int x_7, .ref (xad X 21)] [.int r10, .int x_7, .ref (xad X 21)]  (coX8_has σ (σ.2 1 8) a4 r10 σ9 hc) mn_RX1_90 (by decide) rfl rfl (Nat.le_of_ble_eq_true rfl) rfl dX1_layWay_38 rfl ?_
        refine r_if_ne dX1_layWay_41 rfl rfl h (fun c h => ?_) (fun c h => ?_)
        · refine r_iconst dX1_layWay_49 rfl ki_m1 ?_
          refine r_iast rfl dX1_layWay_50 rfl h (fun σ11 h => ?_)
          exact r_vret rfl dX1_layWay_51 h hE
        · refine r_iload 5 dX1_layWay_44 rfl rfl ?_
          refine r_goto dX1_layWay_46 rfl ?_
          refine r_iast rfl dX1_layWay_50 rfl h (fun σ12 h => ?_)
          exact r_vret rfl dX1_layWay_51 h hE
theorem coX1_layWay (σ : Mem) (a1 : Int32) (a2 : Int32) (a3 : Int32) (a4 : Int32) (σ2 : Mem) (h : FX1_layWay σ a1 a2 a3 a4 = some σ2) : Con SX 2 yX1_layWay cX1_layWay 6 none (fun ad => [.ref (ad 1), .int a1, .int a2, .int a3, .int a4]) σ (fun _ => none) σ2 :=
  con_of (by decide +kernel) (fun _ => Nat.le_of_ble_eq_true rfl) (fun X hE => eX1_layWay (out := σ2) hE σ a1 a2 a3 a4 h)
-- IceYard$Ground layWays
abbrev mX1_layWays : MD := (cX1_layWays, RX1, 4, none, 3)
noncomputable def FX1_layWays_92 (rl2 : Mem → Int32 → Option (Mem)) (rl12 : Mem → Int32 → Int32 → Option (Mem)) (σ : Mem) (x1 : Int32) (x2 : Int32) (x3 : Int32) (s0 : Int32) (s1 : Int32) (s2 : Int32) : Option (Mem) :=
  bv (FX1_layWay σ s2 s1 s0 (x3 + (σ.1 1 5))) fun σ10 =>
  if x2 ≤ 0 then
  (bv (FX1_layWay σ10 x3 (3 : Int32) (0 : Int32) (x3 - (1 : Int32))) fun σ11 =>
  nm (x2 + (1 : Int32)) fun x_12 =>
  rl12 σ11 x1 x_12)
  else
  (bv (FX1_layWay σ10 x3 (3 : Int32) (1 : Int32) (x3 - (1 : Int32))) fun σ13 =>
  nm (x2 + (1 : Int32)) fun x_14 =>
  rl12 σ13 x1 x_14)
set_option maxHeartbeats 4000000 in
set_option maxRecDepth 100000 in
theorem jX1_layWays_92 {X : CX} {out : Mem} (hE : Ends X SX none out) (rl2 : Mem → Int32 → Option (Mem)) (hr2 : ∀ (σ : Mem) (x1 : Int32), rl2 σ x1 = some out → J X SX mX1_layWays σ 2 [(0, .ref (xad X 1)), (1, .int x1)] []) (rl12 : Mem → Int32 → Int32 → Option (Mem)) (hr12 : ∀ (σ : Mem) (x1 : Int32) (x2 : Int32), rl12 σ x1 x2 = some out → J X SX mX1_layWays σ 12 [(0, .ref (xad X 1)), (1, .int x1), (2, .int x2)] []) (σ : Mem) (x1 : Int32) (x2 : Int32) (x3 : Int32) (s0 : Int32) (s1 : Int32) (s2 : Int32) (h : FX1_layWays_92 rl2 rl12 σ x1 x2 x3 s0 s1 s2 = some out) : J X SX mX1_layWays σ 92 [(0, .ref (xad X 1)), (1, .int x1), (2, .int x2), (3, .int x3)] [.int s0, .int s1, .int s2, .ref (xad X 1)] := by
  refine r_iload_n 3 dX1_layWays_92 rfl rfl rfl ?_
  refine r_aload_n 0 dX1_layWays_93 rfl rfl rfl ?_
  refine r_getI fg_RX1_28 rfl rfl dX1_layWays_94 rfl ?_
  refine r_iadd dX1_layWays_97 rfl ?_
  obtain ⟨σ10, hc, h⟩ := bv_of h
  refine r_callV [.int s2, .int s1, .int s0, .int (x3 + (σ.1 1 5))] [] []  (coX1_layWay σ s2 s1 s0 (x3 + (σ.1 1 5)) σ10 hc) mv_RX1_86 (by decide) rfl rfl rfl rfl rfl (Nat.le_of_ble_eq_true rfl) rfl dX1_layWays_98 rfl ?_
  refine r_aload_n 0 dX1_layWays_101 rfl rfl rfl ?_
  refine r_iload_n 3 dX1_layWays_102 rfl rfl rfl ?_
  refine r_iconst dX1_layWays_103 rfl ki_3 ?_
  refine r_iload_n 2 dX1_layWays_104 rfl rfl rfl ?_
  refine r_if_le dX1_layWays_105 rfl rfl h (fun c h => ?_) (fun c h => ?_)
  · refine r_iconst dX1_layWays_112 rfl ki_0 ?_
    refine r_iload_n 3 dX1_layWays_113 rfl rfl rfl ?_
    refine r_iconst dX1_layWays_114 rfl ki_1 ?_
    refine r_isub dX1_layWays_115 rfl ?_
    obtain ⟨σ11, hc, h⟩ := bv_of h
    refine r_callV [.int x3, .int (3 : Int32), .int (0 : Int32), .int (x3 - (1 : Int32))] [] []  (coX1_layWay σ10 x3 (3 : Int32) (0 : Int32) (x3 - (1 : Int32)) σ11 hc) mv_RX1_86 (by decide) rfl rfl rfl rfl rfl (Nat.le_of_ble_eq_true rfl) rfl dX1_layWays_116 rfl ?_
    refine r_iinc 2 (fun x_12 => [(2, .int x_12), (0, .ref (xad X 1)), (1, .int x1), (3, .int x3)]) dX1_layWays_119 rfl rfl ki_1 (show 2 < 4 by decide) (fun _ => rfl) h (fun x_12 h => ?_)
    refine r_goto dX1_layWays_122 rfl ?_
    refine r_sub [1, 2, 0] rfl ?_
    exact hr12 σ11 x1 x_12 h
  · refine r_iconst dX1_layWays_108 rfl ki_1 ?_
    refine r_goto dX1_layWays_109 rfl ?_
    refine r_iload_n 3 dX1_layWays_113 rfl rfl rfl ?_
    refine r_iconst dX1_layWays_114 rfl ki_1 ?_
    refine r_isub dX1_layWays_115 rfl ?_
    obtain ⟨σ13, hc, h⟩ := bv_of h
    refine r_callV [.int x3, .int (3 : Int32), .int (1 : Int32), .int (x3 - (1 : Int32))] [] []  (coX1_layWay σ10 x3 (3 : Int32) (1 : Int32) (x3 - (1 : Int32)) σ13 hc) mv_RX1_86 (by decide) rfl rfl rfl rfl rfl (Nat.le_of_ble_eq_true rfl) rfl dX1_layWays_116 rfl ?_
    refine r_iinc 2 (fun x_14 => [(2, .int x_14), (0, .ref (xad X 1)), (1, .int x1), (3, .int x3)]) dX1_layWays_119 rfl rfl ki_1 (show 2 < 4 by decide) (fun _ => rfl) h (fun x_14 h => ?_)
    refine r_goto dX1_layWays_122 rfl ?_
    refine r_sub [1, 2, 0] rfl ?_
    exact hr12 σ13 x1 x_14 h
noncomputable def FX1_layWays_68 (rl2 : Mem → Int32 → Option (Mem)) (rl12 : Mem → Int32 → Int32 → Option (Mem)) (σ : Mem) (x1 : Int32) (x2 : Int32) (x3 : Int32) (s0 : Int32) (s1 : Int32) (s2 : Int32) : Option (Mem) :=
  bv (FX1_layWay σ s2 s1 s0 (x3 + (1 : Int32))) fun σ15 =>
  if ((σ15.1 1 4) - (1 : Int32)) ≤ x1 then
  (FX1_layWays_92 rl2 rl12 σ15 x1 x2 x3 (0 : Int32) (2 : Int32) x3)
  else
  (FX1_layWays_92 rl2 rl12 σ15 x1 x2 x3 (1 : Int32) (2 : Int32) x3)
set_option maxHeartbeats 4000000 in
set_option maxRecDepth 100000 in
theorem jX1_layWays_68 {X : CX} {out : Mem} (hE : Ends X SX none out) (rl2 : Mem → Int32 → Option (Mem)) (hr2 : ∀ (σ : Mem) (x1 : Int32), rl2 σ x1 = some out → J X SX mX1_layWays σ 2 [(0, .ref (xad X 1)), (1, .int x1)] []) (rl12 : Mem → Int32 → Int32 → Option (Mem)) (hr12 : ∀ (σ : Mem) (x1 : Int32) (x2 : Int32), rl12 σ x1 x2 = some out → J X SX mX1_layWays σ 12 [(0, .ref (xad X 1)), (1, .int x1), (2, .int x2)] []) (σ : Mem) (x1 : Int32) (x2 : Int32) (x3 : Int32) (s0 : Int32) (s1 : Int32) (s2 : Int32) (h : FX1_layWays_68 rl2 rl12 σ x1 x2 x3 s0 s1 s2 = some out) : J X SX mX1_layWays σ 68 [(0, .ref (xad X 1)), (1, .int x1), (2, .int x2), (3, .int x3)] [.int s0, .int s1, .int s2, .ref (xad X 1)] := by
  refine r_iload_n 3 dX1_layWays_68 rfl rfl rfl ?_
  refine r_iconst dX1_layWays_69 rfl ki_1 ?_
  refine r_iadd dX1_layWays_70 rfl ?_
  obtain ⟨σ15, hc, h⟩ := bv_of h
  refine r_callV [.int s2, .int s1, .int s0, .int (x3 + (1 : Int32))] [] []  (coX1_layWay σ s2 s1 s0 (x3 + (1 : Int32)) σ15 hc) mv_RX1_86 (by decide) rfl rfl rfl rfl rfl (Nat.le_of_ble_eq_true rfl) rfl dX1_layWays_71 rfl ?_
  refine r_aload_n 0 dX1_layWays_74 rfl rfl rfl ?_
  refine r_iload_n 3 dX1_layWays_75 rfl rfl rfl ?_
  refine r_iconst dX1_layWays_76 rfl ki_2 ?_
  refine r_iload_n 1 dX1_layWays_77 rfl rfl rfl ?_
  refine r_aload_n 0 dX1_layWays_78 rfl rfl rfl ?_
  refine r_getI fg_RX1_24 rfl rfl dX1_layWays_79 rfl ?_
  refine r_iconst dX1_layWays_82 rfl ki_1 ?_
  refine r_isub dX1_layWays_83 rfl ?_
  refine r_icmp_ge dX1_layWays_84 rfl rfl h (fun c h => ?_) (fun c h => ?_)
  · refine r_iconst dX1_layWays_91 rfl ki_0 ?_
    exact jX1_layWays_92 hE rl2 hr2 rl12 hr12 σ15 x1 x2 x3 (0 : Int32) (2 : Int32) x3 h
  · refine r_iconst dX1_layWays_87 rfl ki_1 ?_
    refine r_goto dX1_layWays_88 rfl ?_
    exact jX1_layWays_92 hE rl2 hr2 rl12 hr12 σ15 x1 x2 x3 (1 : Int32) (2 : Int32) x3 h
noncomputable def FX1_layWays_41 (rl2 : Mem → Int32 → Option (Mem)) (rl12 : Mem → Int32 → Int32 → Option (Mem)) (σ : Mem) (x1 : Int32) (x2 : Int32) (x3 : Int32) (s0 : Int32) (s1 : Int32) (s2 : Int32) : Option (Mem) :=
  bv (FX1_layWay σ s2 s1 s0 (x3 - (σ.1 1 5))) fun σ16 =>
  if ((σ16.1 1 5) - (1 : Int32)) ≤ x2 then
  (FX1_layWays_68 rl2 rl12 σ16 x1 x2 x3 (0 : Int32) (1 : Int32) x3)
  else
  (FX1_layWays_68 rl2 rl12 σ16 x1 x2 x3 (1 : Int32) (1 : Int32) x3)
set_option maxHeartbeats 4000000 in
set_option maxRecDepth 100000 in
theorem jX1_layWays_41 {X : CX} {out : Mem} (hE : Ends X SX none out) (rl2 : Mem → Int32 → Option (Mem)) (hr2 : ∀ (σ : Mem) (x1 : Int32), rl2 σ x1 = some out → J X SX mX1_layWays σ 2 [(0, .ref (xad X 1)), (1, .int x1)] []) (rl12 : Mem → Int32 → Int32 → Option (Mem)) (hr12 : ∀ (σ : Mem) (x1 : Int32) (x2 : Int32), rl12 σ x1 x2 = some out → J X SX mX1_layWays σ 12 [(0, .ref (xad X 1)), (1, .int x1), (2, .int x2)] []) (σ : Mem) (x1 : Int32) (x2 : Int32) (x3 : Int32) (s0 : Int32) (s1 : Int32) (s2 : Int32) (h : FX1_layWays_41 rl2 rl12 σ x1 x2 x3 s0 s1 s2 = some out) : J X SX mX1_layWays σ 41 [(0, .ref (xad X 1)), (1, .int x1), (2, .int x2), (3, .int x3)] [.int s0, .int s1, .int s2, .ref (xad X 1)] := by
  refine r_iload_n 3 dX1_layWays_41 rfl rfl rfl ?_
  refine r_aload_n 0 dX1_layWays_42 rfl rfl rfl ?_
  refine r_getI fg_RX1_28 rfl rfl dX1_layWays_43 rfl ?_
  refine r_isub dX1_layWays_46 rfl ?_
  obtain ⟨σ16, hc, h⟩ := bv_of h
  refine r_callV [.int s2, .int s1, .int s0, .int (x3 - (σ.1 1 5))] [] []  (coX1_layWay σ s2 s1 s0 (x3 - (σ.1 1 5)) σ16 hc) mv_RX1_86 (by decide) rfl rfl rfl rfl rfl (Nat.le_of_ble_eq_true rfl) rfl dX1_layWays_47 rfl ?_
  refine r_aload_n 0 dX1_layWays_50 rfl rfl rfl ?_
  refine r_iload_n 3 dX1_layWays_51 rfl rfl rfl ?_
  refine r_iconst dX1_layWays_52 rfl ki_1 ?_
  refine r_iload_n 2 dX1_layWays_53 rfl rfl rfl ?_
  refine r_aload_n 0 dX1_layWays_54 rfl rfl rfl ?_
  refine r_getI fg_RX1_28 rfl rfl dX1_layWays_55 rfl ?_
  refine r_iconst dX1_layWays_58 rfl ki_1 ?_
  refine r_isub dX1_layWays_59 rfl ?_
  refine r_icmp_ge dX1_layWays_60 rfl rfl h (fun c h => ?_) (fun c h => ?_)
  · refine r_iconst dX1_layWays_67 rfl ki_0 ?_
    exact jX1_layWays_68 hE rl2 hr2 rl12 hr12 σ16 x1 x2 x3 (0 : Int32) (1 : Int32) x3 h
  · refine r_iconst dX1_layWays_63 rfl ki_1 ?_
    refine r_goto dX1_layWays_64 rfl ?_
    exact jX1_layWays_68 hE rl2 hr2 rl12 hr12 σ16 x1 x2 x3 (1 : Int32) (1 : Int32) x3 h
noncomputable def BX1_layWays_12 (rl2 : Mem → Int32 → Option (Mem)) (rl12 : Mem → Int32 → Int32 → Option (Mem)) (σ : Mem) (x1 : Int32) (x2 : Int32) : Option (Mem) :=
  if (σ.1 1 5) ≤ x2 then
  (nm (x1 + (1 : Int32)) fun x_17 =>
  rl2 σ x_17)
  else
  (nm ((x1 * (σ.1 1 5)) + x2) fun x_18 =>
  if x1 ≤ 0 then
  (FX1_layWays_41 rl2 rl12 σ x1 x2 x_18 (0 : Int32) (0 : Int32) x_18)
  else
  (FX1_layWays_41 rl2 rl12 σ x1 x2 x_18 (1 : Int32) (0 : Int32) x_18))
set_option maxHeartbeats 4000000 in
set_option maxRecDepth 100000 in
theorem jX1_layWays_12 {X : CX} {out : Mem} (hE : Ends X SX none out) (rl2 : Mem → Int32 → Option (Mem)) (hr2 : ∀ (σ : Mem) (x1 : Int32), rl2 σ x1 = some out → J X SX mX1_layWays σ 2 [(0, .ref (xad X 1)), (1, .int x1)] []) (rl12 : Mem → Int32 → Int32 → Option (Mem)) (hr12 : ∀ (σ : Mem) (x1 : Int32) (x2 : Int32), rl12 σ x1 x2 = some out → J X SX mX1_layWays σ 12 [(0, .ref (xad X 1)), (1, .int x1), (2, .int x2)] []) (σ : Mem) (x1 : Int32) (x2 : Int32) (h : BX1_layWays_12 rl2 rl12 σ x1 x2 = some out) : J X SX mX1_layWays σ 12 [(0, .ref (xad X 1)), (1, .int x1), (2, .int x2)] [] := by
  refine r_iload_n 2 dX1_layWays_12 rfl rfl rfl ?_
  refine r_aload_n 0 dX1_layWays_13 rfl rfl rfl ?_
  refine r_getI fg_RX1_28 rfl rfl dX1_layWays_14 rfl ?_
  refine r_icmp_ge dX1_layWays_17 rfl rfl h (fun c h => ?_) (fun c h => ?_)
  · refine r_iinc 1 (fun x_17 => [(1, .int x_17), (0, .ref (xad X 1)), (2, .int x2)]) dX1_layWays_125 rfl rfl ki_1 (show 1 < 4 by decide) (fun _ => rfl) h (fun x_17 h => ?_)
    refine r_goto dX1_layWays_128 rfl ?_
    refine r_sub [1, 0] rfl ?_
    exact hr2 σ x_17 h
  · refine r_iload_n 1 dX1_layWays_20 rfl rfl rfl ?_
    refine r_aload_n 0 dX1_layWays_21 rfl rfl rfl ?_
    refine r_getI fg_RX1_28 rfl rfl dX1_layWays_22 rfl ?_
    refine r_imul dX1_layWays_25 rfl ?_
    refine r_iload_n 2 dX1_layWays_26 rfl rfl rfl ?_
    refine r_iadd dX1_layWays_27 rfl ?_
    refine r_istore_n (fun x_18 => [(3, .int x_18), (0, .ref (xad X 1)), (1, .int x1), (2, .int x2)]) dX1_layWays_28 rfl rfl (show 3 < 4 by decide) (fun _ => rfl) h (fun x_18 h => ?_)
    refine r_aload_n 1 dX1_layWays_29 rfl rfl rfl ?_
    refine r_iload_n 0 dX1_layWays_30 rfl rfl rfl ?_
    refine r_iconst dX1_layWays_31 rfl ki_0 ?_
    refine r_iload_n 2 dX1_layWays_32 rfl rfl rfl ?_
    refine r_if_le dX1_layWays_33 rfl rfl h (fun c h => ?_) (fun c h => ?_)
    · refine r_iconst dX1_layWays_40 rfl ki_0 ?_
      refine r_sub [1, 2, 3, 0] rfl ?_
      exact jX1_layWays_41 hE rl2 hr2 rl12 hr12 σ x1 x2 x_18 (0 : Int32) (0 : Int32) x_18 h
    · refine r_iconst dX1_layWays_36 rfl ki_1 ?_
      refine r_goto dX1_layWays_37 rfl ?_
      refine r_sub [1, 2, 3, 0] rfl ?_
      exact jX1_layWays_41 hE rl2 hr2 rl12 hr12 σ x1 x2 x_18 (1 : Int32) (0 : Int32) x_18 h
noncomputable def FX1_layWays_12 (rl2 : Mem → Int32 → Option (Mem)) (n : Nat) : Mem → Int32 → Int32 → Option (Mem) :=
  Nat.rec (fun _ _ _ => none) (fun _ ih => BX1_layWays_12 rl2 ih) n
theorem lX1_layWays_12 {X : CX} {out : Mem} (hE : Ends X SX none out) (rl2 : Mem → Int32 → Option (Mem)) (hr2 : ∀ (σ : Mem) (x1 : Int32), rl2 σ x1 = some out → J X SX mX1_layWays σ 2 [(0, .ref (xad X 1)), (1, .int x1)] []) : ∀ (n : Nat) (σ : Mem) (x1 : Int32) (x2 : Int32), FX1_layWays_12 rl2 n σ x1 x2 = some out → J X SX mX1_layWays σ 12 [(0, .ref (xad X 1)), (1, .int x1), (2, .int x2)] [] := by
  intro n
  induction n with
  | zero => intro σ x1 x2 h; exact nn h
  | succ n ih => intro σ x1 x2 h; exact jX1_layWays_12 hE rl2 hr2 (FX1_layWays_12 rl2 n) ih σ x1 x2 h
noncomputable def BX1_layWays_2 (rl2 : Mem → Int32 → Option (Mem)) (σ : Mem) (x1 : Int32) : Option (Mem) :=
  if (σ.1 1 4) ≤ x1 then
  (some σ)
  else
  (FX1_layWays_12 rl2 FU σ x1 (0 : Int32))
set_option maxHeartbeats 4000000 in
set_option maxRecDepth 100000 in
theorem jX1_layWays_2 {X : CX} {out : Mem} (hE : Ends X SX none out) (rl2 : Mem → Int32 → Option (Mem)) (hr2 : ∀ (σ : Mem) (x1 : Int32), rl2 σ x1 = some out → J X SX mX1_layWays σ 2 [(0, .ref (xad X 1)), (1, .int x1)] []) (σ : Mem) (x1 : Int32) (h : BX1_layWays_2 rl2 σ x1 = some out) : J X SX mX1_layWays σ 2 [(0, .ref (xad X 1)), (1, .int x1)] [] := by
  refine r_iload_n 1 dX1_layWays_2 rfl rfl rfl ?_
  refine r_aload_n 0 dX1_layWays_3 rfl rfl rfl ?_
  refine r_getI fg_RX1_24 rfl rfl dX1_layWays_4 rfl ?_
  refine r_icmp_ge dX1_layWays_7 rfl rfl h (fun c h => ?_) (fun c h => ?_)
  · exact r_vret rfl dX1_layWays_131 h hE
  · refine r_iconst dX1_layWays_10 rfl ki_0 ?_
    refine r_istoreV_n [(2, .int (0 : Int32)), (0, .ref (xad X 1)), (1, .int x1)] dX1_layWays_11 rfl rfl (show 2 < 4 by decide) rfl ?_
    refine r_sub [1, 2, 0] rfl ?_
    exact lX1_layWays_12 hE rl2 hr2 FU σ x1 (0 : Int32) h
noncomputable def FX1_layWays_2 (n : Nat) : Mem → Int32 → Option (Mem) :=
  Nat.rec (fun _ _ => none) (fun _ ih => BX1_layWays_2 ih) n
theorem lX1_layWays_2 {X : CX} {out : Mem} (hE : Ends X SX none out) : ∀ (n : Nat) (σ : Mem) (x1 : Int32), FX1_layWays_2 n σ x1 = some out → J X SX mX1_layWays σ 2 [(0, .ref (xad X 1)), (1, .int x1)] [] := by
  intro n
  induction n with
  | zero => intro σ x1 h; exact nn h
  | succ n ih => intro σ x1 h; exact jX1_layWays_2 hE (FX1_layWays_2 n) ih σ x1 h
noncomputable def FX1_layWays (σ : Mem) : Option (Mem) :=
  FX1_layWays_2 FU σ (0 : Int32)
set_option maxHeartbeats 4000000 in
set_option maxRecDepth 100000 in
theorem eX1_layWays {X : CX} {out : Mem} (hE : Ends X SX none out) (σ : Mem) (h : FX1_layWays σ = some out) : J X SX mX1_layWays σ 0 [(0, .ref (xad X 1))] [] := by
  refine r_iconst dX1_layWays_0 rfl ki_0 ?_
  refine r_istoreV_n [(1, .int (0 : Int32)), (0, .ref (xad X 1))] dX1_layWays_1 rfl rfl (show 1 < 4 by decide) rfl ?_
  refine r_sub [1, 0] rfl ?_
  exact lX1_layWays_2 hE FU σ (0 : Int32) h
theorem coX1_layWays (σ : Mem) (σ2 : Mem) (h : FX1_layWays σ = some σ2) : Con SX 3 yX1_layWays cX1_layWays 4 none (fun ad => [.ref (ad 1)]) σ (fun _ => none) σ2 :=
  con_of (by decide +kernel) (fun _ => Nat.le_of_ble_eq_true rfl) (fun X hE => eX1_layWays (out := σ2) hE σ h)
-- IceYard$Text opensRow
abbrev mX7_opensRow : MD := (cX7_opensRow, RX7, 2, (some .boolean), 1)
noncomputable def FX7_opensRow (σ : Mem) (a0 : Int32) (a1 : Int32) : Option (Int32 × Mem) :=
  if a1 < 0 then
  (rz (0 : Int32) σ)
  else
  (dzI (a1 + (1 : Int32)) <|
  if ((a0 - (3 : Int32)) - (a0 - (3 : Int32)) / (a1 + (1 : Int32)) * (a1 + (1 : Int32))) = 0 then
  (rz (1 : Int32) σ)
  else
  (rz (0 : Int32) σ))
set_option maxHeartbeats 4000000 in
set_option maxRecDepth 100000 in
theorem eX7_opensRow {X : CX} {out : Int32 × Mem} (hE : Ends X SX (some (.int out.1)) out.2) (σ : Mem) (a0 : Int32) (a1 : Int32) (h : FX7_opensRow σ a0 a1 = some out) : J X SX mX7_opensRow σ 0 [(0, .int a0), (1, .int a1)] [] := by
  refine r_iload_n 1 dX7_opensRow_0 rfl rfl rfl ?_
  refine r_if_lt dX7_opensRow_1 rfl rfl h (fun c h => ?_) (fun c h => ?_)
  · refine r_iconst dX7_opensRow_18 rfl ki_0 ?_
    exact r_zret rfl dX7_opensRow_19 h hE
  · refine r_iload_n 0 dX7_opensRow_4 rfl rfl rfl ?_
    refine r_iconst dX7_opensRow_5 rfl ki_3 ?_
    refine r_isub dX7_opensRow_6 rfl ?_
    refine r_iload_n 1 dX7_opensRow_7 rfl rfl rfl ?_
    refine r_iconst dX7_opensRow_8 rfl ki_1 ?_
    refine r_iadd dX7_opensRow_9 rfl ?_
    refine r_irem dX7_opensRow_10 rfl h (fun h => ?_)
    refine r_if_ne dX7_opensRow_11 rfl rfl h (fun c h => ?_) (fun c h => ?_)
    · refine r_iconst dX7_opensRow_18 rfl ki_0 ?_
      exact r_zret rfl dX7_opensRow_19 h hE
    · refine r_iconst dX7_opensRow_14 rfl ki_1 ?_
      refine r_goto dX7_opensRow_15 rfl ?_
      exact r_zret rfl dX7_opensRow_19 h hE
theorem coX7_opensRow (σ : Mem) (a0 : Int32) (a1 : Int32) (r : Int32) (σ2 : Mem) (h : FX7_opensRow σ a0 a1 = some (r, σ2)) : Con SX 1 yX7_opensRow cX7_opensRow 2 (some .boolean) (fun ad => [.int a0, .int a1]) σ (fun _ => some (.int r)) σ2 :=
  con_of (by decide +kernel) (fun _ => Nat.le_of_ble_eq_true rfl) (fun X hE => eX7_opensRow (out := (r, σ2)) hE σ a0 a1 h)
-- IceYard$Ground lay
abbrev mX1_lay : MD := (cX1_lay, RX1, 6, none, 4)
noncomputable def BX1_lay_69 (o : Nat) (rl69 : Mem → Int32 → Int32 → Int32 → Int32 → Option (Mem)) (σ : Mem) (x2 : Int32) (x3 : Int32) (x4 : Int32) (x5 : Int32) : Option (Mem) :=
  if x3 ≤ x5 then
  (bv (FX1_layWays σ) fun σ23 =>
  some σ23)
  else
  (bi (FX7_opensRow σ x5 (σ.1 1 5)) fun r25 σ24 =>
  if r25 = 0 then
  (bi (FX5_read o σ24 (x2 + x5)) fun r28 σ27 =>
  bv (FX1_layCell σ27 x4 r28) fun σ29 =>
  nm (x4 + (1 : Int32)) fun x_30 =>
  nm (x5 + (1 : Int32)) fun x_31 =>
  rl69 σ29 x2 x3 x_30 x_31)
  else
  (nm (x5 + (1 : Int32)) fun x_26 =>
  rl69 σ24 x2 x3 x4 x_26))
set_option maxHeartbeats 4000000 in
set_option maxRecDepth 100000 in
theorem jX1_lay_69 {X : CX} {out : Mem} (o : Nat) (ho : shOk o) (hE : Ends X SX none out) (rl69 : Mem → Int32 → Int32 → Int32 → Int32 → Option (Mem)) (hr69 : ∀ (σ : Mem) (x2 : Int32) (x3 : Int32) (x4 : Int32) (x5 : Int32), rl69 σ x2 x3 x4 x5 = some out → J X SX mX1_lay σ 69 [(0, .ref (xad X 1)), (1, .ref (xad X o)), (2, .int x2), (3, .int x3), (4, .int x4), (5, .int x5)] []) (σ : Mem) (x2 : Int32) (x3 : Int32) (x4 : Int32) (x5 : Int32) (h : BX1_lay_69 o rl69 σ x2 x3 x4 x5 = some out) : J X SX mX1_lay σ 69 [(0, .ref (xad X 1)), (1, .ref (xad X o)), (2, .int x2), (3, .int x3), (4, .int x4), (5, .int x5)] [] := by
  refine r_iload 5 dX1_lay_69 rfl rfl ?_
  refine r_iload_n 3 dX1_lay_71 rfl rfl rfl ?_
  refine r_icmp_ge dX1_lay_72 rfl rfl h (fun c h => ?_) (fun c h => ?_)
  · refine r_aload_n 0 dX1_lay_110 rfl rfl rfl ?_
    obtain ⟨σ23, hc, h⟩ := bv_of h
    refine r_callV [] [] []  (coX1_layWays σ σ23 hc) mv_RX1_73 (by decide) rfl rfl rfl rfl rfl (Nat.le_of_ble_eq_true rfl) rfl dX1_lay_111 rfl ?_
    exact r_vret rfl dX1_lay_114 h hE
  · refine r_iload 5 dX1_lay_75 rfl rfl ?_
    refine r_aload_n 0 dX1_lay_77 rfl rfl rfl ?_
    refine r_getI fg_RX1_28 rfl rfl dX1_lay_78 rfl ?_
    obtain ⟨r25, σ24, hc, h⟩ := bi_of h
    refine r_callS [] [.int r25]  (coX7_opensRow σ x5 (σ.1 1 5) r25 σ24 hc) ms_RX1_65 (by decide) rfl rfl (Nat.le_of_ble_eq_true rfl) rfl dX1_lay_81 rfl ?_
    refine r_if_ne dX1_lay_84 rfl rfl h (fun c h => ?_) (fun c h => ?_)
    · refine r_iinc 5 (fun x_26 => [(5, .int x_26), (0, .ref (xad X 1)), (1, .ref (xad X o)), (2, .int x2), (3, .int x3), (4, .int x4)]) dX1_lay_104 rfl rfl ki_1 (show 5 < 6 by decide) (fun _ => rfl) h (fun x_26 h => ?_)
      refine r_goto dX1_lay_107 rfl ?_
      refine r_sub [1, 2, 3, 4, 5, 0] rfl ?_
      exact hr69 σ24 x2 x3 x4 x_26 h
    · refine r_aload_n 0 dX1_lay_87 rfl rfl rfl ?_
      refine r_iload 4 dX1_lay_88 rfl rfl ?_
      refine r_aload_n 1 dX1_lay_90 rfl rfl rfl ?_
      refine r_iload_n 2 dX1_lay_91 rfl rfl rfl ?_
      refine r_iload 5 dX1_lay_92 rfl rfl ?_
      refine r_iadd dX1_lay_94 rfl ?_
      obtain ⟨r28, σ27, hc, h⟩ := bi_of h
      refine r_callV [.int (x2 + x5)] [.int x4, .ref (xad X 1)] [.int r28, .int x4, .ref (xad X 1)]  (coX5_read o ho σ24 (x2 + x5) r28 σ27 hc) mv_RX1_38 (by decide) (sx_obj ho) rfl rfl rfl rfl (Nat.le_of_ble_eq_true rfl) rfl dX1_lay_95 rfl ?_
      obtain ⟨σ29, hc, h⟩ := bv_of h
      refine r_callV [.int x4, .int r28] [] []  (coX1_layCell σ27 x4 r28 σ29 hc) mv_RX1_69 (by decide) rfl rfl rfl rfl rfl (Nat.le_of_ble_eq_true rfl) rfl dX1_lay_98 rfl ?_
      refine r_iinc 4 (fun x_30 => [(4, .int x_30), (0, .ref (xad X 1)), (1, .ref (xad X o)), (2, .int x2), (3, .int x3), (5, .int x5)]) dX1_lay_101 rfl rfl ki_1 (show 4 < 6 by decide) (fun _ => rfl) h (fun x_30 h => ?_)
      refine r_iinc 5 (fun x_31 => [(5, .int x_31), (4, .int x_30), (0, .ref (xad X 1)), (1, .ref (xad X o)), (2, .int x2), (3, .int x3)]) dX1_lay_104 rfl rfl ki_1 (show 5 < 6 by decide) (fun _ => rfl) h (fun x_31 h => ?_)
      refine r_goto dX1_lay_107 rfl ?_
      refine r_sub [2, 3, 4, 5, 1, 0] rfl ?_
      exact hr69 σ29 x2 x3 x_30 x_31 h
noncomputable def FX1_lay_69 (o : Nat) (n : Nat) : Mem → Int32 → Int32 → Int32 → Int32 → Option (Mem) :=
  Nat.rec (fun _ _ _ _ _ => none) (fun _ ih => BX1_lay_69 o ih) n
theorem lX1_lay_69 {X : CX} {out : Mem} (o : Nat) (ho : shOk o) (hE : Ends X SX none out) : ∀ (n : Nat) (σ : Mem) (x2 : Int32) (x3 : Int32) (x4 : Int32) (x5 : Int32), FX1_lay_69 o n σ x2 x3 x4 x5 = some out → J X SX mX1_lay σ 69 [(0, .ref (xad X 1)), (1, .ref (xad X o)), (2, .int x2), (3, .int x3), (4, .int x4), (5, .int x5)] [] := by
  intro n
  induction n with
  | zero => intro σ x2 x3 x4 x5 h; exact nn h
  | succ n ih => intro σ x2 x3 x4 x5 h; exact jX1_lay_69 o ho hE (FX1_lay_69 o n) ih σ x2 x3 x4 x5 h
noncomputable def FX1_lay (o : Nat) (σ : Mem) (a2 : Int32) (a3 : Int32) : Option (Mem) :=
  bi (FX5_read o σ (a2 + (1 : Int32))) fun r33 σ32 =>
  nm (setI σ32 1 4 (r33 - (48 : Int32))) fun σ34 =>
  bi (FX5_read o σ34 (a2 + (2 : Int32))) fun r36 σ35 =>
  nm (setI σ35 1 5 (r36 - (48 : Int32))) fun σ37 =>
  nm (setI σ37 1 6 (0 : Int32)) fun σ38 =>
  nm (setI σ38 1 7 (0 : Int32)) fun σ39 =>
  nm (setL σ39 1 8 (0 : Int64)) fun σ40 =>
  nm (setL σ40 1 9 (0 : Int64)) fun σ41 =>
  nm (setL σ41 1 10 (0 : Int64)) fun σ42 =>
  nm (setL σ42 1 11 (0 : Int64)) fun σ43 =>
  nm (setL σ43 1 12 (0 : Int64)) fun σ44 =>
  FX1_lay_69 o FU σ44 a2 a3 (0 : Int32) (3 : Int32)
set_option maxHeartbeats 4000000 in
set_option maxRecDepth 100000 in
theorem eX1_lay {X : CX} {out : Mem} (o : Nat) (ho : shOk o) (hE : Ends X SX none out) (σ : Mem) (a2 : Int32) (a3 : Int32) (h : FX1_lay o σ a2 a3 = some out) : J X SX mX1_lay σ 0 [(0, .ref (xad X 1)), (1, .ref (xad X o)), (2, .int a2), (3, .int a3)] [] := by
  refine r_aload_n 0 dX1_lay_0 rfl rfl rfl ?_
  refine r_aload_n 1 dX1_lay_1 rfl rfl rfl ?_
  refine r_iload_n 2 dX1_lay_2 rfl rfl rfl ?_
  refine r_iconst dX1_lay_3 rfl ki_1 ?_
  refine r_iadd dX1_lay_4 rfl ?_
  obtain ⟨r33, σ32, hc, h⟩ := bi_of h
  refine r_callV [.int (a2 + (1 : Int32))] [.ref (xad X 1)] [.int r33, .ref (xad X 1)]  (coX5_read o ho σ (a2 + (1 : Int32)) r33 σ32 hc) mv_RX1_38 (by decide) (sx_obj ho) rfl rfl rfl rfl (Nat.le_of_ble_eq_true rfl) rfl dX1_lay_5 rfl ?_
  refine r_bipush dX1_lay_8 rfl kb_48 ?_
  refine r_isub dX1_lay_10 rfl ?_
  refine r_putI fp_RX1_24 rfl rfl dX1_lay_11 rfl h (fun σ34 h => ?_)
  refine r_aload_n 0 dX1_lay_14 rfl rfl rfl ?_
  refine r_aload_n 1 dX1_lay_15 rfl rfl rfl ?_
  refine r_iload_n 2 dX1_lay_16 rfl rfl rfl ?_
  refine r_iconst dX1_lay_17 rfl ki_2 ?_
  refine r_iadd dX1_lay_18 rfl ?_
  obtain ⟨r36, σ35, hc, h⟩ := bi_of h
  refine r_callV [.int (a2 + (2 : Int32))] [.ref (xad X 1)] [.int r36, .ref (xad X 1)]  (coX5_read o ho σ34 (a2 + (2 : Int32)) r36 σ35 hc) mv_RX1_38 (by decide) (sx_obj ho) rfl rfl rfl rfl (Nat.le_of_ble_eq_true rfl) rfl dX1_lay_19 rfl ?_
  refine r_bipush dX1_lay_22 rfl kb_48 ?_
  refine r_isub dX1_lay_24 rfl ?_
  refine r_putI fp_RX1_28 rfl rfl dX1_lay_25 rfl h (fun σ37 h => ?_)
  refine r_aload_n 0 dX1_lay_28 rfl rfl rfl ?_
  refine r_iconst dX1_lay_29 rfl ki_0 ?_
  refine r_putI fp_RX1_31 rfl rfl dX1_lay_30 rfl h (fun σ38 h => ?_)
  refine r_aload_n 0 dX1_lay_33 rfl rfl rfl ?_
  refine r_iconst dX1_lay_34 rfl ki_0 ?_
  refine r_putI fp_RX1_44 rfl rfl dX1_lay_35 rfl h (fun σ39 h => ?_)
  refine r_aload_n 0 dX1_lay_38 rfl rfl rfl ?_
  refine r_lconst dX1_lay_39 rfl kl_0 ?_
  refine r_putL fp_RX1_47 rfl rfl dX1_lay_40 rfl h (fun σ40 h => ?_)
  refine r_aload_n 0 dX1_lay_43 rfl rfl rfl ?_
  refine r_lconst dX1_lay_44 rfl kl_0 ?_
  refine r_putL fp_RX1_51 rfl rfl dX1_lay_45 rfl h (fun σ41 h => ?_)
  refine r_aload_n 0 dX1_lay_48 rfl rfl rfl ?_
  refine r_lconst dX1_lay_49 rfl kl_0 ?_
  refine r_putL fp_RX1_54 rfl rfl dX1_lay_50 rfl h (fun σ42 h => ?_)
  refine r_aload_n 0 dX1_lay_53 rfl rfl rfl ?_
  refine r_lconst dX1_lay_54 rfl kl_0 ?_
  refine r_putL fp_RX1_57 rfl rfl dX1_lay_55 rfl h (fun σ43 h => ?_)
  refine r_aload_n 0 dX1_lay_58 rfl rfl rfl ?_
  refine r_lconst dX1_lay_59 rfl kl_0 ?_
  refine r_putL fp_RX1_60 rfl rfl dX1_lay_60 rfl h (fun σ44 h => ?_)
  refine r_iconst dX1_lay_63 rfl ki_0 ?_
  refine r_istoreV [(4, .int (0 : Int32)), (0, .ref (xad X 1)), (1, .ref (xad X o)), (2, .int a2), (3, .int a3)] dX1_lay_64 rfl (show 4 < 6 by decide) rfl ?_
  refine r_iconst dX1_lay_66 rfl ki_3 ?_
  refine r_istoreV [(5, .int (3 : Int32)), (4, .int (0 : Int32)), (0, .ref (xad X 1)), (1, .ref (xad X o)), (2, .int a2), (3, .int a3)] dX1_lay_67 rfl (show 5 < 6 by decide) rfl ?_
  refine r_sub [2, 3, 4, 5, 1, 0] rfl ?_
  exact lX1_lay_69 o ho hE FU σ44 a2 a3 (0 : Int32) (3 : Int32) h
theorem coX1_lay (o : Nat) (ho : shOk o) (σ : Mem) (a2 : Int32) (a3 : Int32) (σ2 : Mem) (h : FX1_lay o σ a2 a3 = some σ2) : Con SX 4 yX1_lay cX1_lay 6 none (fun ad => [.ref (ad 1), .ref (ad o), .int a2, .int a3]) σ (fun _ => none) σ2 :=
  con_of (by decide +kernel) (fun _ => Nat.le_of_ble_eq_true rfl) (fun X hE => eX1_lay o ho (out := σ2) hE σ a2 a3 h)
-- IceYard$Slider forget
abbrev mX6_forget : MD := (cX6_forget, RX6, 1, none, 1)
noncomputable def FX6_forget (σ : Mem) : Option (Mem) :=
  nm (setL σ 2 2 (-1 : Int64)) fun σ2 =>
  some σ2
set_option maxHeartbeats 4000000 in
set_option maxRecDepth 100000 in
theorem eX6_forget {X : CX} {out : Mem} (hE : Ends X SX none out) (σ : Mem) (h : FX6_forget σ = some out) : J X SX mX6_forget σ 0 [(0, .ref (xad X 2))] [] := by
  refine r_aload_n 0 dX6_forget_0 rfl rfl rfl ?_
  refine r_ldc2 dX6_forget_1 rfl cl_RX6_15 ?_
  refine r_putL fp_RX6_17 rfl rfl dX6_forget_4 rfl h (fun σ2 h => ?_)
  exact r_vret rfl dX6_forget_7 h hE
theorem coX6_forget (σ : Mem) (σ2 : Mem) (h : FX6_forget σ = some σ2) : Con SX 1 yX6_forget cX6_forget 1 none (fun ad => [.ref (ad 2)]) σ (fun _ => none) σ2 :=
  con_of (by decide +kernel) (fun _ => Nat.le_of_ble_eq_true rfl) (fun X hE => eX6_forget (out := σ2) hE σ h)
-- IceYard takeYard
abbrev mX8_takeYard : MD := (cX8_takeYard, RX8, 4, none, 5)
noncomputable def FX8_takeYard (o : Nat) (σ : Mem) (a2 : Int32) (a3 : Int32) : Option (Mem) :=
  bv (FX1_lay o σ a2 a3) fun σ8 =>
  bv (FX6_forget σ8) fun σ9 =>
  bi (FX1_firstYard σ9) fun r11 σ10 =>
  nm (setL σ10 0 9 r11) fun σ12 =>
  nm (setI σ12 0 10 (0 : Int32)) fun σ13 =>
  bv (FJ7_fill_d0a16 17 3 σ13 (-1 : Int64)) fun σ14 =>
  some σ14
set_option maxHeartbeats 4000000 in
set_option maxRecDepth 100000 in
theorem eX8_takeYard {X : CX} {out : Mem} (o : Nat) (ho : shOk o) (hE : Ends X SX none out) (σ : Mem) (a2 : Int32) (a3 : Int32) (h : FX8_takeYard o σ a2 a3 = some out) : J X SX mX8_takeYard σ 0 [(0, .ref (xad X 0)), (1, .ref (xad X o)), (2, .int a2), (3, .int a3)] [] := by
  refine r_aload_n 0 dX8_takeYard_0 rfl rfl rfl ?_
  refine r_getR fg_RX8_14 rfl rfl dX8_takeYard_1 rfl ?_
  refine r_aload_n 1 dX8_takeYard_4 rfl rfl rfl ?_
  refine r_iload_n 2 dX8_takeYard_5 rfl rfl rfl ?_
  refine r_iload_n 3 dX8_takeYard_6 rfl rfl rfl ?_
  obtain ⟨σ8, hc, h⟩ := bv_of h
  refine r_callV [.ref (xad X o), .int a2, .int a3] [] []  (coX1_lay o ho σ a2 a3 σ8 hc) mv_RX8_109 (by decide) rfl rfl rfl rfl rfl (Nat.le_of_ble_eq_true rfl) rfl dX8_takeYard_7 rfl ?_
  refine r_aload_n 0 dX8_takeYard_10 rfl rfl rfl ?_
  refine r_getR fg_RX8_23 rfl rfl dX8_takeYard_11 rfl ?_
  obtain ⟨σ9, hc, h⟩ := bv_of h
  refine r_callV [] [] []  (coX6_forget σ8 σ9 hc) mv_RX8_112 (by decide) rfl rfl rfl rfl rfl (Nat.le_of_ble_eq_true rfl) rfl dX8_takeYard_14 rfl ?_
  refine r_aload_n 0 dX8_takeYard_17 rfl rfl rfl ?_
  refine r_aload_n 0 dX8_takeYard_18 rfl rfl rfl ?_
  refine r_getR fg_RX8_14 rfl rfl dX8_takeYard_19 rfl ?_
  obtain ⟨r11, σ10, hc, h⟩ := bi_of h
  refine r_callV [] [.ref (xad X 0)] [.long r11, .ref (xad X 0)]  (coX1_firstYard σ9 r11 σ10 hc) mv_RX8_115 (by decide) rfl rfl rfl rfl rfl (Nat.le_of_ble_eq_true rfl) rfl dX8_takeYard_22 rfl ?_
  refine r_putL fp_RX8_119 rfl rfl dX8_takeYard_25 rfl h (fun σ12 h => ?_)
  refine r_aload_n 0 dX8_takeYard_28 rfl rfl rfl ?_
  refine r_iconst dX8_takeYard_29 rfl ki_0 ?_
  refine r_putI fp_RX8_123 rfl rfl dX8_takeYard_30 rfl h (fun σ13 h => ?_)
  refine r_aload_n 0 dX8_takeYard_33 rfl rfl rfl ?_
  refine r_getR fg_RX8_70 rfl rfl dX8_takeYard_34 rfl ?_
  refine r_ldc2 dX8_takeYard_37 rfl cl_RX8_68 ?_
  obtain ⟨σ14, hc, h⟩ := bv_of h
  refine r_callS [] []  (coJ7_fill_d0a16 17 3 rfl σ13 (-1 : Int64) σ14 hc) ms_RX8_126 (by decide) rfl rfl (Nat.le_of_ble_eq_true rfl) rfl dX8_takeYard_40 rfl ?_
  exact r_vret rfl dX8_takeYard_43 h hE
theorem coX8_takeYard (o : Nat) (ho : shOk o) (σ : Mem) (a2 : Int32) (a3 : Int32) (σ2 : Mem) (h : FX8_takeYard o σ a2 a3 = some σ2) : Con SX 5 yX8_takeYard cX8_takeYard 4 none (fun ad => [.ref (ad 0), .ref (ad o), .int a2, .int a3]) σ (fun _ => none) σ2 :=
  con_of (by decide +kernel) (fun _ => Nat.le_of_ble_eq_true rfl) (fun X hE => eX8_takeYard o ho (out := σ2) hE σ a2 a3 h)
-- IceYard tellBlock
abbrev mX8_tellBlock : MD := (cX8_tellBlock, RX8, 2, (some .int), 3)
noncomputable def FX8_tellBlock (σ : Mem) (a1 : Int32) : Option (Int32 × Mem) :=
  bv (FX8_leaveTrace σ (1 : Int32)) fun σ4 =>
  bi (FX1_startOf σ4 a1) fun r6 σ5 =>
  some (r6, σ5)
set_option maxHeartbeats 4000000 in
set_option maxRecDepth 100000 in
theorem eX8_tellBlock {X : CX} {out : Int32 × Mem} (hE : Ends X SX (some (.int out.1)) out.2) (σ : Mem) (a1 : Int32) (h : FX8_tellBlock σ a1 = some out) : J X SX mX8_tellBlock σ 0 [(0, .ref (xad X 0)), (1, .int a1)] [] := by
  refine r_aload_n 0 dX8_tellBlock_0 rfl rfl rfl ?_
  refine r_iconst dX8_tellBlock_1 rfl ki_1 ?_
  obtain ⟨σ4, hc, h⟩ := bv_of h
  refine r_callV [.int (1 : Int32)] [] []  (coX8_leaveTrace σ (1 : Int32) σ4 hc) mv_RX8_248 (by decide) rfl rfl rfl rfl rfl (Nat.le_of_ble_eq_true rfl) rfl dX8_tellBlock_2 rfl ?_
  refine r_aload_n 0 dX8_tellBlock_5 rfl rfl rfl ?_
  refine r_getR fg_RX8_14 rfl rfl dX8_tellBlock_6 rfl ?_
  refine r_iload_n 1 dX8_tellBlock_9 rfl rfl rfl ?_
  obtain ⟨r6, σ5, hc, h⟩ := bi_of h
  refine r_callV [.int a1] [] [.int r6]  (coX1_startOf σ4 a1 r6 σ5 hc) mv_RX8_252 (by decide) rfl rfl rfl rfl rfl (Nat.le_of_ble_eq_true rfl) rfl dX8_tellBlock_10 rfl ?_
  exact r_iret rfl dX8_tellBlock_13 h hE
theorem coX8_tellBlock (σ : Mem) (a1 : Int32) (r : Int32) (σ2 : Mem) (h : FX8_tellBlock σ a1 = some (r, σ2)) : Con SX 3 yX8_tellBlock cX8_tellBlock 2 (some .int) (fun ad => [.ref (ad 0), .int a1]) σ (fun _ => some (.int r)) σ2 :=
  con_of (by decide +kernel) (fun _ => Nat.le_of_ble_eq_true rfl) (fun X hE => eX8_tellBlock (out := (r, σ2)) hE σ a1 h)
-- IceYard tellLog
abbrev mX8_tellLog : MD := (cX8_tellLog, RX8, 2, (some .int), 4)
noncomputable def FX8_tellLog (σ : Mem) (a1 : Int32) : Option (Int32 × Mem) :=
  bv (FX8_leaveTrace σ (2 : Int32)) fun σ4 =>
  bi (FX8_tellBlock σ4 a1) fun r6 σ5 =>
  some ((r6 + (100 : Int32)), σ5)
set_option maxHeartbeats 4000000 in
set_option maxRecDepth 100000 in
theorem eX8_tellLog {X : CX} {out : Int32 × Mem} (hE : Ends X SX (some (.int out.1)) out.2) (σ : Mem) (a1 : Int32) (h : FX8_tellLog σ a1 = some out) : J X SX mX8_tellLog σ 0 [(0, .ref (xad X 0)), (1, .int a1)] [] := by
  refine r_aload_n 0 dX8_tellLog_0 rfl rfl rfl ?_
  refine r_iconst dX8_tellLog_1 rfl ki_2 ?_
  obtain ⟨σ4, hc, h⟩ := bv_of h
  refine r_callV [.int (2 : Int32)] [] []  (coX8_leaveTrace σ (2 : Int32) σ4 hc) mv_RX8_248 (by decide) rfl rfl rfl rfl rfl (Nat.le_of_ble_eq_true rfl) rfl dX8_tellLog_2 rfl ?_
  refine r_aload_n 0 dX8_tellLog_5 rfl rfl rfl ?_
  refine r_iload_n 1 dX8_tellLog_6 rfl rfl rfl ?_
  obtain ⟨r6, σ5, hc, h⟩ := bi_of h
  refine r_callV [.int a1] [] [.int r6]  (coX8_tellBlock σ4 a1 r6 σ5 hc) mv_RX8_245 (by decide) rfl rfl rfl rfl rfl (Nat.le_of_ble_eq_true rfl) rfl dX8_tellLog_7 rfl ?_
  refine r_bipush dX8_tellLog_10 rfl kb_100 ?_
  refine r_iadd dX8_tellLog_12 rfl ?_
  exact r_iret rfl dX8_tellLog_13 h hE
theorem coX8_tellLog (σ : Mem) (a1 : Int32) (r : Int32) (σ2 : Mem) (h : FX8_tellLog σ a1 = some (r, σ2)) : Con SX 4 yX8_tellLog cX8_tellLog 2 (some .int) (fun ad => [.ref (ad 0), .int a1]) σ (fun _ => some (.int r)) σ2 :=
  con_of (by decide +kernel) (fun _ => Nat.le_of_ble_eq_true rfl) (fun X hE => eX8_tellLog (out := (r, σ2)) hE σ a1 h)
-- IceYard tellSledge
abbrev mX8_tellSledge : MD := (cX8_tellSledge, RX8, 3, (some .int), 5)
noncomputable def FX8_tellSledge (σ : Mem) (a1 : Int32) : Option (Int32 × Mem) :=
  bv (FX8_leaveTrace σ (3 : Int32)) fun σ6 =>
  bi (FX8_tellLog σ6 a1) fun r8 σ7 =>
  bi (FX8_tellBlock σ7 a1) fun r10 σ9 =>
  some ((r8 + r10), σ9)
set_option maxHeartbeats 4000000 in
set_option maxRecDepth 100000 in
theorem eX8_tellSledge {X : CX} {out : Int32 × Mem} (hE : Ends X SX (some (.int out.1)) out.2) (σ : Mem) (a1 : Int32) (h : FX8_tellSledge σ a1 = some out) : J X SX mX8_tellSledge σ 0 [(0, .ref (xad X 0)), (1, .int a1)] [] := by
  refine r_aload_n 0 dX8_tellSledge_0 rfl rfl rfl ?_
  refine r_iconst dX8_tellSledge_1 rfl ki_3 ?_
  obtain ⟨σ6, hc, h⟩ := bv_of h
  refine r_callV [.int (3 : Int32)] [] []  (coX8_leaveTrace σ (3 : Int32) σ6 hc) mv_RX8_248 (by decide) rfl rfl rfl rfl rfl (Nat.le_of_ble_eq_true rfl) rfl dX8_tellSledge_2 rfl ?_
  refine r_aload_n 0 dX8_tellSledge_5 rfl rfl rfl ?_
  refine r_iload_n 1 dX8_tellSledge_6 rfl rfl rfl ?_
  obtain ⟨r8, σ7, hc, h⟩ := bi_of h
  refine r_callV [.int a1] [] [.int r8]  (coX8_tellLog σ6 a1 r8 σ7 hc) mv_RX8_242 (by decide) rfl rfl rfl rfl rfl (Nat.le_of_ble_eq_true rfl) rfl dX8_tellSledge_7 rfl ?_
  refine r_istoreV_n [(2, .int r8), (0, .ref (xad X 0)), (1, .int a1)] dX8_tellSledge_10 rfl rfl (show 2 < 3 by decide) rfl ?_
  refine r_iload_n 0 dX8_tellSledge_11 rfl rfl rfl ?_
  refine r_aload_n 1 dX8_tellSledge_12 rfl rfl rfl ?_
  refine r_iload_n 2 dX8_tellSledge_13 rfl rfl rfl ?_
  obtain ⟨r10, σ9, hc, h⟩ := bi_of h
  refine r_callV [.int a1] [.int r8] [.int r10, .int r8]  (coX8_tellBlock σ7 a1 r10 σ9 hc) mv_RX8_245 (by decide) rfl rfl rfl rfl rfl (Nat.le_of_ble_eq_true rfl) rfl dX8_tellSledge_14 rfl ?_
  refine r_iadd dX8_tellSledge_17 rfl ?_
  exact r_iret rfl dX8_tellSledge_18 h hE
theorem coX8_tellSledge (σ : Mem) (a1 : Int32) (r : Int32) (σ2 : Mem) (h : FX8_tellSledge σ a1 = some (r, σ2)) : Con SX 5 yX8_tellSledge cX8_tellSledge 3 (some .int) (fun ad => [.ref (ad 0), .int a1]) σ (fun _ => some (.int r)) σ2 :=
  con_of (by decide +kernel) (fun _ => Nat.le_of_ble_eq_true rfl) (fun X hE => eX8_tellSledge (out := (r, σ2)) hE σ a1 h)
-- IceYard tell
abbrev mX8_tell : MD := (cX8_tell, RX8, 2, (some .int), 6)
noncomputable def FX8_tell (σ : Mem) (a1 : Int32) : Option (Int32 × Mem) :=
  bi (FX1_hasBlock σ a1) fun r12 σ11 =>
  if r12 = 0 then
  (some ((-1 : Int32), σ11))
  else
  (bi (FX1_kindOf σ11 a1) fun r14 σ13 =>
  if r14 = (1 : Int32) then
  (bi (FX8_tellLog σ13 a1) fun r16 σ15 =>
  some (r16, σ15))
  else
  (if r14 = (2 : Int32) then
  (bi (FX8_tellSledge σ13 a1) fun r18 σ17 =>
  some (r18, σ17))
  else
  (bi (FX8_tellBlock σ13 a1) fun r20 σ19 =>
  some (r20, σ19))))
set_option maxHeartbeats 4000000 in
set_option maxRecDepth 100000 in
theorem eX8_tell {X : CX} {out : Int32 × Mem} (hE : Ends X SX (some (.int out.1)) out.2) (σ : Mem) (a1 : Int32) (h : FX8_tell σ a1 = some out) : J X SX mX8_tell σ 0 [(0, .ref (xad X 0)), (1, .int a1)] [] := by
  refine r_aload_n 0 dX8_tell_0 rfl rfl rfl ?_
  refine r_getR fg_RX8_14 rfl rfl dX8_tell_1 rfl ?_
  refine r_iload_n 1 dX8_tell_4 rfl rfl rfl ?_
  obtain ⟨r12, σ11, hc, h⟩ := bi_of h
  refine r_callV [.int a1] [] [.int r12]  (coX1_hasBlock σ a1 r12 σ11 hc) mv_RX8_144 (by decide) rfl rfl rfl rfl rfl (Nat.le_of_ble_eq_true rfl) rfl dX8_tell_5 rfl ?_
  refine r_if_ne dX8_tell_8 rfl rfl h (fun c h => ?_) (fun c h => ?_)
  · refine r_aload_n 0 dX8_tell_13 rfl rfl rfl ?_
    refine r_getR fg_RX8_14 rfl rfl dX8_tell_14 rfl ?_
    refine r_iload_n 1 dX8_tell_17 rfl rfl rfl ?_
    obtain ⟨r14, σ13, hc, h⟩ := bi_of h
    refine r_callV [.int a1] [] [.int r14]  (coX1_kindOf σ11 a1 r14 σ13 hc) mv_RX8_147 (by decide) rfl rfl rfl rfl rfl (Nat.le_of_ble_eq_true rfl) rfl dX8_tell_18 rfl ?_
    refine cpI h (fun c h => ?_) (fun n21_0 h => ?_)
    · refine r_lookup dX8_tell_21 (by decide) (by rw [c] <;> rfl) rfl ?_
      refine r_aload_n 0 dX8_tell_54 rfl rfl rfl ?_
      refine r_iload_n 1 dX8_tell_55 rfl rfl rfl ?_
      obtain ⟨r16, σ15, hc, h⟩ := bi_of h
      refine r_callV [.int a1] [] [.int r16]  (coX8_tellLog σ13 a1 r16 σ15 hc) mv_RX8_242 (by decide) rfl rfl rfl rfl rfl (Nat.le_of_ble_eq_true rfl) rfl dX8_tell_56 rfl ?_
      exact r_iret rfl dX8_tell_59 h hE
    · refine cpI h (fun c h => ?_) (fun n21_1 h => ?_)
      · refine r_lookup dX8_tell_21 (by decide) (by rw [c] <;> rfl) rfl ?_
        refine r_aload_n 0 dX8_tell_48 rfl rfl rfl ?_
        refine r_iload_n 1 dX8_tell_49 rfl rfl rfl ?_
        obtain ⟨r18, σ17, hc, h⟩ := bi_of h
        refine r_callV [.int a1] [] [.int r18]  (coX8_tellSledge σ13 a1 r18 σ17 hc) mv_RX8_239 (by decide) rfl rfl rfl rfl rfl (Nat.le_of_ble_eq_true rfl) rfl dX8_tell_50 rfl ?_
        exact r_iret rfl dX8_tell_53 h hE
      · refine r_lookup dX8_tell_21 (by decide) (by show Op.lookupswitch.offset [(1, 33), (2, 27)] (39) _ = _; rw [lv_osw n21_0 (by decide), lv_osw n21_1 (by decide)] <;> rfl) rfl ?_
        refine r_aload_n 0 dX8_tell_60 rfl rfl rfl ?_
        refine r_iload_n 1 dX8_tell_61 rfl rfl rfl ?_
        obtain ⟨r20, σ19, hc, h⟩ := bi_of h
        refine r_callV [.int a1] [] [.int r20]  (coX8_tellBlock σ13 a1 r20 σ19 hc) mv_RX8_245 (by decide) rfl rfl rfl rfl rfl (Nat.le_of_ble_eq_true rfl) rfl dX8_tell_62 rfl ?_
        exact r_iret rfl dX8_tell_65 h hE
  · refine r_iconst dX8_tell_11 rfl ki_m1 ?_
    exact r_iret rfl dX8_tell_12 h hE
theorem coX8_tell (σ : Mem) (a1 : Int32) (r : Int32) (σ2 : Mem) (h : FX8_tell σ a1 = some (r, σ2)) : Con SX 6 yX8_tell cX8_tell 2 (some .int) (fun ad => [.ref (ad 0), .int a1]) σ (fun _ => some (.int r)) σ2 :=
  con_of (by decide +kernel) (fun _ => Nat.le_of_ble_eq_true rfl) (fun X hE => eX8_tell (out := (r, σ2)) hE σ a1 h)
-- IceYard thaw
abbrev mX8_thaw : MD := (cX8_thaw, RX8, 7, (some .int), 2)
noncomputable def BX8_thaw_51 (rl51 : Mem → Int32 → Int32 → Int32 → Option (Int32 × Mem)) (σ : Mem) (x3 : Int32) (x4 : Int32) (x5 : Int32) : Option (Int32 × Mem) :=
  if (σ.1 1 6) ≤ x5 then
  (some (x4, σ))
  else
  (bi (FX8_placeOf σ (σ.2 0 9) x5) fun r10 σ9 =>
  if (36 : Int32) ≤ r10 then
  (nm (x5 + (1 : Int32)) fun x_11 =>
  rl51 σ9 x3 x4 x_11)
  else
  (if r10 < x3 then
  (nm (x5 + (1 : Int32)) fun x_12 =>
  rl51 σ9 x3 x4 x_12)
  else
  (nm (x4 ||| ((1 : Int32) <<< (x5 &&& 31))) fun x_13 =>
  nm (x5 + (1 : Int32)) fun x_14 =>
  rl51 σ9 x3 x_13 x_14)))
set_option maxHeartbeats 4000000 in
set_option maxRecDepth 100000 in
theorem jX8_thaw_51 {X : CX} {out : Int32 × Mem} (hE : Ends X SX (some (.int out.1)) out.2) (rl51 : Mem → Int32 → Int32 → Int32 → Option (Int32 × Mem)) (hr51 : ∀ (σ : Mem) (x3 : Int32) (x4 : Int32) (x5 : Int32), rl51 σ x3 x4 x5 = some out → J X SX mX8_thaw σ 51 [(0, .ref (xad X 0)), (3, .int x3), (4, .int x4), (5, .int x5)] []) (σ : Mem) (x3 : Int32) (x4 : Int32) (x5 : Int32) (h : BX8_thaw_51 rl51 σ x3 x4 x5 = some out) : J X SX mX8_thaw σ 51 [(0, .ref (xad X 0)), (3, .int x3), (4, .int x4), (5, .int x5)] [] := by
  refine r_iload 3 dX8_thaw_51 rfl rfl ?_
  refine r_aload_n 0 dX8_thaw_53 rfl rfl rfl ?_
  refine r_getR fg_RX8_14 rfl rfl dX8_thaw_54 rfl ?_
  refine r_getI fg_RX8_106 rfl rfl dX8_thaw_57 rfl ?_
  refine r_icmp_ge dX8_thaw_60 rfl rfl h (fun c h => ?_) (fun c h => ?_)
  · refine r_iload 2 dX8_thaw_102 rfl rfl ?_
    exact r_iret rfl dX8_thaw_104 h hE
  · refine r_aload_n 0 dX8_thaw_63 rfl rfl rfl ?_
    refine r_getL fg_RX8_119 rfl rfl dX8_thaw_64 rfl ?_
    refine r_iload 3 dX8_thaw_67 rfl rfl ?_
    obtain ⟨r10, σ9, hc, h⟩ := bi_of h
    refine r_callS [] [.int r10]  (coX8_placeOf σ (σ.2 0 9) x5 r10 σ9 hc) ms_RX8_136 (by decide) rfl rfl (Nat.le_of_ble_eq_true rfl) rfl dX8_thaw_69 rfl ?_
    refine r_istoreV [(6, .int r10), (0, .ref (xad X 0)), (3, .int x3), (4, .int x4), (5, .int x5)] dX8_thaw_72 rfl (show 6 < 7 by decide) rfl ?_
    refine r_iload 0 dX8_thaw_74 rfl rfl ?_
    refine r_bipush dX8_thaw_76 rfl kb_36 ?_
    refine r_icmp_ge dX8_thaw_78 rfl rfl h (fun c h => ?_) (fun c h => ?_)
    · refine r_iinc 4 (fun x_11 => [(5, .int x_11), (6, .int r10), (0, .ref (xad X 0)), (3, .int x3), (4, .int x4)]) dX8_thaw_96 rfl rfl ki_1 (show 5 < 7 by decide) (fun _ => rfl) h (fun x_11 h => ?_)
      refine r_goto dX8_thaw_99 rfl ?_
      refine r_sub [2, 3, 4, 0] rfl ?_
      exact hr51 σ9 x3 x4 x_11 h
    · refine r_iload 0 dX8_thaw_81 rfl rfl ?_
      refine r_iload_n 2 dX8_thaw_83 rfl rfl rfl ?_
      refine r_icmp_lt dX8_thaw_84 rfl rfl h (fun c h => ?_) (fun c h => ?_)
      · refine r_iinc 4 (fun x_12 => [(5, .int x_12), (6, .int r10), (0, .ref (xad X 0)), (3, .int x3), (4, .int x4)]) dX8_thaw_96 rfl rfl ki_1 (show 5 < 7 by decide) (fun _ => rfl) h (fun x_12 h => ?_)
        refine r_goto dX8_thaw_99 rfl ?_
        refine r_sub [2, 3, 4, 0] rfl ?_
        exact hr51 σ9 x3 x4 x_12 h
      · refine r_iload 3 dX8_thaw_87 rfl rfl ?_
        refine r_iconst dX8_thaw_89 rfl ki_1 ?_
        refine r_iload 4 dX8_thaw_90 rfl rfl ?_
        refine r_ishl dX8_thaw_92 rfl ?_
        refine r_ior dX8_thaw_93 rfl ?_
        refine r_istore (fun x_13 => [(4, .int x_13), (6, .int r10), (0, .ref (xad X 0)), (3, .int x3), (5, .int x5)]) dX8_thaw_94 rfl (show 4 < 7 by decide) (fun _ => rfl) h (fun x_13 h => ?_)
        refine r_iinc 4 (fun x_14 => [(5, .int x_14), (4, .int x_13), (6, .int r10), (0, .ref (xad X 0)), (3, .int x3)]) dX8_thaw_96 rfl rfl ki_1 (show 5 < 7 by decide) (fun _ => rfl) h (fun x_14 h => ?_)
        refine r_goto dX8_thaw_99 rfl ?_
        refine r_sub [3, 4, 1, 0] rfl ?_
        exact hr51 σ9 x3 x_13 x_14 h
noncomputable def FX8_thaw_51 (n : Nat) : Mem → Int32 → Int32 → Int32 → Option (Int32 × Mem) :=
  Nat.rec (fun _ _ _ _ => none) (fun _ ih => BX8_thaw_51 ih) n
theorem lX8_thaw_51 {X : CX} {out : Int32 × Mem} (hE : Ends X SX (some (.int out.1)) out.2) : ∀ (n : Nat) (σ : Mem) (x3 : Int32) (x4 : Int32) (x5 : Int32), FX8_thaw_51 n σ x3 x4 x5 = some out → J X SX mX8_thaw σ 51 [(0, .ref (xad X 0)), (3, .int x3), (4, .int x4), (5, .int x5)] [] := by
  intro n
  induction n with
  | zero => intro σ x3 x4 x5 h; exact nn h
  | succ n ih => intro σ x3 x4 x5 h; exact jX8_thaw_51 hE (FX8_thaw_51 n) ih σ x3 x4 x5 h
noncomputable def FX8_thaw (σ : Mem) (a1 : Int32) : Option (Int32 × Mem) :=
  if a1 < 0 then
  (some ((-2 : Int32), σ))
  else
  (if a1 ≤ (20 : Int32) then
  (dzI (2 : Int32) <|
  nm (if (σ.1 1 4) < (a1 / (2 : Int32)) then (σ.1 1 4) else (a1 / (2 : Int32))) fun x_15 =>
  nm (((σ.1 1 4) - x_15) * (σ.1 1 5)) fun x_16 =>
  FX8_thaw_51 FU σ x_16 (0 : Int32) (0 : Int32))
  else
  (some ((-2 : Int32), σ)))
set_option maxHeartbeats 4000000 in
set_option maxRecDepth 100000 in
theorem eX8_thaw {X : CX} {out : Int32 × Mem} (hE : Ends X SX (some (.int out.1)) out.2) (σ : Mem) (a1 : Int32) (h : FX8_thaw σ a1 = some out) : J X SX mX8_thaw σ 0 [(0, .ref (xad X 0)), (1, .int a1)] [] := by
  refine r_iload_n 1 dX8_thaw_0 rfl rfl rfl ?_
  refine r_if_lt dX8_thaw_1 rfl rfl h (fun c h => ?_) (fun c h => ?_)
  · refine r_bipush dX8_thaw_10 rfl kb_m2 ?_
    exact r_iret rfl dX8_thaw_12 h hE
  · refine r_iload_n 1 dX8_thaw_4 rfl rfl rfl ?_
    refine r_bipush dX8_thaw_5 rfl kb_20 ?_
    refine r_icmp_le dX8_thaw_7 rfl rfl h (fun c h => ?_) (fun c h => ?_)
    · refine r_iload_n 1 dX8_thaw_13 rfl rfl rfl ?_
      refine r_iconst dX8_thaw_14 rfl ki_2 ?_
      refine r_idiv dX8_thaw_15 rfl h (fun h => ?_)
      refine r_aload_n 0 dX8_thaw_16 rfl rfl rfl ?_
      refine r_getR fg_RX8_14 rfl rfl dX8_thaw_17 rfl ?_
      refine r_getI fg_RX8_196 rfl rfl dX8_thaw_20 rfl ?_
      refine r_min mm_RX8_199 (show 1 ≤ 2 by decide) (Nat.le_of_ble_eq_true rfl) dX8_thaw_23 rfl ?_
      refine r_istore_n (fun x_15 => [(2, .int x_15), (0, .ref (xad X 0)), (1, .int a1)]) dX8_thaw_26 rfl rfl (show 2 < 7 by decide) (fun _ => rfl) h (fun x_15 h => ?_)
      refine r_aload_n 1 dX8_thaw_27 rfl rfl rfl ?_
      refine r_getR fg_RX8_14 rfl rfl dX8_thaw_28 rfl ?_
      refine r_getI fg_RX8_196 rfl rfl dX8_thaw_31 rfl ?_
      refine r_iload_n 0 dX8_thaw_34 rfl rfl rfl ?_
      refine r_isub dX8_thaw_35 rfl ?_
      refine r_aload_n 1 dX8_thaw_36 rfl rfl rfl ?_
      refine r_getR fg_RX8_14 rfl rfl dX8_thaw_37 rfl ?_
      refine r_getI fg_RX8_204 rfl rfl dX8_thaw_40 rfl ?_
      refine r_imul dX8_thaw_43 rfl ?_
      refine r_istore_n (fun x_16 => [(3, .int x_16), (2, .int x_15), (0, .ref (xad X 0)), (1, .int a1)]) dX8_thaw_44 rfl rfl (show 3 < 7 by decide) (fun _ => rfl) h (fun x_16 h => ?_)
      refine r_iconst dX8_thaw_45 rfl ki_0 ?_
      refine r_istoreV [(4, .int (0 : Int32)), (3, .int x_16), (2, .int x_15), (0, .ref (xad X 0)), (1, .int a1)] dX8_thaw_46 rfl (show 4 < 7 by decide) rfl ?_
      refine r_iconst dX8_thaw_48 rfl ki_0 ?_
      refine r_istoreV [(5, .int (0 : Int32)), (4, .int (0 : Int32)), (3, .int x_16), (2, .int x_15), (0, .ref (xad X 0)), (1, .int a1)] dX8_thaw_49 rfl (show 5 < 7 by decide) rfl ?_
      refine r_sub [4, 2, 1, 0] rfl ?_
      exact lX8_thaw_51 hE FU σ x_16 (0 : Int32) (0 : Int32) h
    · refine r_bipush dX8_thaw_10 rfl kb_m2 ?_
      exact r_iret rfl dX8_thaw_12 h hE
theorem coX8_thaw (σ : Mem) (a1 : Int32) (r : Int32) (σ2 : Mem) (h : FX8_thaw σ a1 = some (r, σ2)) : Con SX 2 yX8_thaw cX8_thaw 7 (some .int) (fun ad => [.ref (ad 0), .int a1]) σ (fun _ => some (.int r)) σ2 :=
  con_of (by decide +kernel) (fun _ => Nat.le_of_ble_eq_true rfl) (fun X hE => eX8_thaw (out := (r, σ2)) hE σ a1 h)
-- IceYard trace
abbrev mX8_trace : MD := (cX8_trace, RX8, 1, (some .int), 1)
noncomputable def FX8_trace (σ : Mem) : Option (Int32 × Mem) :=
  some ((σ.1 0 11), σ)
set_option maxHeartbeats 4000000 in
set_option maxRecDepth 100000 in
theorem eX8_trace {X : CX} {out : Int32 × Mem} (hE : Ends X SX (some (.int out.1)) out.2) (σ : Mem) (h : FX8_trace σ = some out) : J X SX mX8_trace σ 0 [(0, .ref (xad X 0))] [] := by
  refine r_aload_n 0 dX8_trace_0 rfl rfl rfl ?_
  refine r_getI fg_RX8_255 rfl rfl dX8_trace_1 rfl ?_
  exact r_iret rfl dX8_trace_4 h hE
theorem coX8_trace (σ : Mem) (r : Int32) (σ2 : Mem) (h : FX8_trace σ = some (r, σ2)) : Con SX 1 yX8_trace cX8_trace 1 (some .int) (fun ad => [.ref (ad 0)]) σ (fun _ => some (.int r)) σ2 :=
  con_of (by decide +kernel) (fun _ => Nat.le_of_ble_eq_true rfl) (fun X hE => eX8_trace (out := (r, σ2)) hE σ h)
-- IceYard tracks
abbrev mX8_tracks : MD := (cX8_tracks, RX8, 3, (some .long), 6)
noncomputable def FX8_tracks (σ : Mem) (a1 : Int32) (a2 : Int32) : Option (Int64 × Mem) :=
  bi (FX8_refusalOfPush σ a1 a2) fun r4 σ3 =>
  if r4 = 0 then
  (some ((σ3.2 2 7), σ3))
  else
  (some ((-9223372036854775808 : Int64), σ3))
set_option maxHeartbeats 4000000 in
set_option maxRecDepth 100000 in
theorem eX8_tracks {X : CX} {out : Int64 × Mem} (hE : Ends X SX (some (.long out.1)) out.2) (σ : Mem) (a1 : Int32) (a2 : Int32) (h : FX8_tracks σ a1 a2 = some out) : J X SX mX8_tracks σ 0 [(0, .ref (xad X 0)), (1, .int a1), (2, .int a2)] [] := by
  refine r_aload_n 0 dX8_tracks_0 rfl rfl rfl ?_
  refine r_iload_n 1 dX8_tracks_1 rfl rfl rfl ?_
  refine r_iload_n 2 dX8_tracks_2 rfl rfl rfl ?_
  obtain ⟨r4, σ3, hc, h⟩ := bi_of h
  refine r_callV [.int a1, .int a2] [] [.int r4]  (coX8_refusalOfPush σ a1 a2 r4 σ3 hc) mv_RX8_153 (by decide) rfl rfl rfl rfl rfl (Nat.le_of_ble_eq_true rfl) rfl dX8_tracks_3 rfl ?_
  refine r_if_eq dX8_tracks_6 rfl rfl h (fun c h => ?_) (fun c h => ?_)
  · refine r_aload_n 0 dX8_tracks_15 rfl rfl rfl ?_
    refine r_getR fg_RX8_23 rfl rfl dX8_tracks_16 rfl ?_
    refine r_getL fg_RX8_162 rfl rfl dX8_tracks_19 rfl ?_
    exact r_lret rfl dX8_tracks_22 h hE
  · refine r_ldc2 dX8_tracks_9 rfl cl_RX8_160 ?_
    refine r_goto dX8_tracks_12 rfl ?_
    exact r_lret rfl dX8_tracks_22 h hE
theorem coX8_tracks (σ : Mem) (a1 : Int32) (a2 : Int32) (r : Int64) (σ2 : Mem) (h : FX8_tracks σ a1 a2 = some (r, σ2)) : Con SX 6 yX8_tracks cX8_tracks 3 (some .long) (fun ad => [.ref (ad 0), .int a1, .int a2]) σ (fun _ => some (.long r)) σ2 :=
  con_of (by decide +kernel) (fun _ => Nat.le_of_ble_eq_true rfl) (fun X hE => eX8_tracks (out := (r, σ2)) hE σ a1 a2 h)
-- IceYard undo
abbrev mX8_undo : MD := (cX8_undo, RX8, 3, (some .int), 1)
noncomputable def FX8_undo (σ : Mem) (a1 : Int32) : Option (Int32 × Mem) :=
  if a1 < 0 then
  (some ((-2 : Int32), σ))
  else
  (if a1 ≤ (σ.1 0 10) then
  (nm ((σ.1 0 10) - a1) fun x_8 =>
  if a1 ≤ 0 then
  (nm (setI σ 0 10 x_8) fun σ9 =>
  some (x_8, σ9))
  else
  (if x_8 < 0 then
  (nm (setI σ 0 10 x_8) fun σ10 =>
  some (x_8, σ10))
  else
  (if (200 : Int32) ≤ x_8 then
  (nm (setI σ 0 10 x_8) fun σ11 =>
  some (x_8, σ11))
  else
  (rd x_8 200 fun j12 =>
  nm (setL σ 0 9 (σ.2 16 j12)) fun σ13 =>
  nm (setI σ13 0 10 x_8) fun σ14 =>
  some (x_8, σ14)))))
  else
  (some ((-2 : Int32), σ)))
set_option maxHeartbeats 4000000 in
set_option maxRecDepth 100000 in
theorem eX8_undo {X : CX} {out : Int32 × Mem} (hE : Ends X SX (some (.int out.1)) out.2) (σ : Mem) (a1 : Int32) (h : FX8_undo σ a1 = some out) : J X SX mX8_undo σ 0 [(0, .ref (xad X 0)), (1, .int a1)] [] := by
  refine r_iload_n 1 dX8_undo_0 rfl rfl rfl ?_
  refine r_if_lt dX8_undo_1 rfl rfl h (fun c h => ?_) (fun c h => ?_)
  · refine r_bipush dX8_undo_12 rfl kb_m2 ?_
    exact r_iret rfl dX8_undo_14 h hE
  · refine r_iload_n 1 dX8_undo_4 rfl rfl rfl ?_
    refine r_aload_n 0 dX8_undo_5 rfl rfl rfl ?_
    refine r_getI fg_RX8_123 rfl rfl dX8_undo_6 rfl ?_
    refine r_icmp_le dX8_undo_9 rfl rfl h (fun c h => ?_) (fun c h => ?_)
    · refine r_aload_n 0 dX8_undo_15 rfl rfl rfl ?_
      refine r_getI fg_RX8_123 rfl rfl dX8_undo_16 rfl ?_
      refine r_iload_n 1 dX8_undo_19 rfl rfl rfl ?_
      refine r_isub dX8_undo_20 rfl ?_
      refine r_istore_n (fun x_8 => [(2, .int x_8), (0, .ref (xad X 0)), (1, .int a1)]) dX8_undo_21 rfl rfl (show 2 < 3 by decide) (fun _ => rfl) h (fun x_8 h => ?_)
      refine r_iload_n 2 dX8_undo_22 rfl rfl rfl ?_
      refine r_if_le dX8_undo_23 rfl rfl h (fun c h => ?_) (fun c h => ?_)
      · refine r_aload_n 1 dX8_undo_49 rfl rfl rfl ?_
        refine r_iload_n 0 dX8_undo_50 rfl rfl rfl ?_
        refine r_putI fp_RX8_123 rfl rfl dX8_undo_51 rfl h (fun σ9 h => ?_)
        refine r_iload_n 0 dX8_undo_54 rfl rfl rfl ?_
        exact r_iret rfl dX8_undo_55 h hE
      · refine r_iload_n 0 dX8_undo_26 rfl rfl rfl ?_
        refine r_if_lt dX8_undo_27 rfl rfl h (fun c h => ?_) (fun c h => ?_)
        · refine r_aload_n 1 dX8_undo_49 rfl rfl rfl ?_
          refine r_iload_n 0 dX8_undo_50 rfl rfl rfl ?_
          refine r_putI fp_RX8_123 rfl rfl dX8_undo_51 rfl h (fun σ10 h => ?_)
          refine r_iload_n 0 dX8_undo_54 rfl rfl rfl ?_
          exact r_iret rfl dX8_undo_55 h hE
        · refine r_iload_n 0 dX8_undo_30 rfl rfl rfl ?_
          refine r_aload_n 1 dX8_undo_31 rfl rfl rfl ?_
          refine r_getR fg_RX8_64 rfl rfl dX8_undo_32 rfl ?_
          refine r_alen rfl (by decide) rfl dX8_undo_35 rfl ?_
          refine r_icmp_ge dX8_undo_36 rfl rfl h (fun c h => ?_) (fun c h => ?_)
          · refine r_aload_n 1 dX8_undo_49 rfl rfl rfl ?_
            refine r_iload_n 0 dX8_undo_50 rfl rfl rfl ?_
            refine r_putI fp_RX8_123 rfl rfl dX8_undo_51 rfl h (fun σ11 h => ?_)
            refine r_iload_n 0 dX8_undo_54 rfl rfl rfl ?_
            exact r_iret rfl dX8_undo_55 h hE
          · refine r_aload_n 1 dX8_undo_39 rfl rfl rfl ?_
            refine r_aload_n 1 dX8_undo_40 rfl rfl rfl ?_
            refine r_getR fg_RX8_64 rfl rfl dX8_undo_41 rfl ?_
            refine r_iload_n 0 dX8_undo_44 rfl rfl rfl ?_
            refine r_lald rfl dX8_undo_45 rfl h (fun j12 h => ?_)
            refine r_putL fp_RX8_119 rfl rfl dX8_undo_46 rfl h (fun σ13 h => ?_)
            refine r_aload_n 1 dX8_undo_49 rfl rfl rfl ?_
            refine r_iload_n 0 dX8_undo_50 rfl rfl rfl ?_
            refine r_putI fp_RX8_123 rfl rfl dX8_undo_51 rfl h (fun σ14 h => ?_)
            refine r_iload_n 0 dX8_undo_54 rfl rfl rfl ?_
            exact r_iret rfl dX8_undo_55 h hE
    · refine r_bipush dX8_undo_12 rfl kb_m2 ?_
      exact r_iret rfl dX8_undo_14 h hE
theorem coX8_undo (σ : Mem) (a1 : Int32) (r : Int32) (σ2 : Mem) (h : FX8_undo σ a1 = some (r, σ2)) : Con SX 1 yX8_undo cX8_undo 3 (some .int) (fun ad => [.ref (ad 0), .int a1]) σ (fun _ => some (.int r)) σ2 :=
  con_of (by decide +kernel) (fun _ => Nat.le_of_ble_eq_true rfl) (fun X hE => eX8_undo (out := (r, σ2)) hE σ a1 h)
-- IceYard won
abbrev mX8_won : MD := (cX8_won, RX8, 2, (some .int), 20)
noncomputable def FX8_won (σ : Mem) (a1 : Int32) : Option (Int32 × Mem) :=
  bi (FX8_isGate σ a1) fun r6 σ5 =>
  if r6 = 0 then
  (some ((-1 : Int32), σ5))
  else
  (bi (FX0_leastTurns σ5 (σ5.2 0 9) a1) fun r8 σ7 =>
  some (r8, σ7))
set_option maxHeartbeats 4000000 in
set_option maxRecDepth 100000 in
theorem eX8_won {X : CX} {out : Int32 × Mem} (hE : Ends X SX (some (.int out.1)) out.2) (σ : Mem) (a1 : Int32) (h : FX8_won σ a1 = some out) : J X SX mX8_won σ 0 [(0, .ref (xad X 0)), (1, .int a1)] [] := by
  refine r_iload_n 1 dX8_won_0 rfl rfl rfl ?_
  obtain ⟨r6, σ5, hc, h⟩ := bi_of h
  refine r_callS [] [.int r6]  (coX8_isGate σ a1 r6 σ5 hc) ms_RX8_169 (by decide) rfl rfl (Nat.le_of_ble_eq_true rfl) rfl dX8_won_1 rfl ?_
  refine r_if_eq dX8_won_4 rfl rfl h (fun c h => ?_) (fun c h => ?_)
  · refine r_iconst dX8_won_22 rfl ki_m1 ?_
    exact r_iret rfl dX8_won_23 h hE
  · refine r_aload_n 0 dX8_won_7 rfl rfl rfl ?_
    refine r_getR fg_RX8_39 rfl rfl dX8_won_8 rfl ?_
    refine r_aload_n 0 dX8_won_11 rfl rfl rfl ?_
    refine r_getL fg_RX8_119 rfl rfl dX8_won_12 rfl ?_
    refine r_iload_n 1 dX8_won_15 rfl rfl rfl ?_
    obtain ⟨r8, σ7, hc, h⟩ := bi_of h
    refine r_callV [.long (σ5.2 0 9), .int a1] [] [.int r8]  (coX0_leastTurns σ5 (σ5.2 0 9) a1 r8 σ7 hc) mv_RX8_178 (by decide) rfl rfl rfl rfl rfl (Nat.le_of_ble_eq_true rfl) rfl dX8_won_16 rfl ?_
    refine r_goto dX8_won_19 rfl ?_
    exact r_iret rfl dX8_won_23 h hE
theorem coX8_won (σ : Mem) (a1 : Int32) (r : Int32) (σ2 : Mem) (h : FX8_won σ a1 = some (r, σ2)) : Con SX 20 yX8_won cX8_won 2 (some .int) (fun ad => [.ref (ad 0), .int a1]) σ (fun _ => some (.int r)) σ2 :=
  con_of (by decide +kernel) (fun _ => Nat.le_of_ble_eq_true rfl) (fun X hE => eX8_won (out := (r, σ2)) hE σ a1 h)
-- IceYard would
abbrev mX8_would : MD := (cX8_would, RX8, 4, (some .int), 6)
noncomputable def FX8_would (σ : Mem) (a1 : Int32) (a2 : Int32) : Option (Int32 × Mem) :=
  bi (FX8_refusalOfPush σ a1 a2) fun r6 σ5 =>
  if r6 = 0 then
  (bi (FX8_whereIs σ5 (σ5.2 2 6) a1) fun r8 σ7 =>
  some (r8, σ7))
  else
  (some (r6, σ5))
set_option maxHeartbeats 4000000 in
set_option maxRecDepth 100000 in
theorem eX8_would {X : CX} {out : Int32 × Mem} (hE : Ends X SX (some (.int out.1)) out.2) (σ : Mem) (a1 : Int32) (a2 : Int32) (h : FX8_would σ a1 a2 = some out) : J X SX mX8_would σ 0 [(0, .ref (xad X 0)), (1, .int a1), (2, .int a2)] [] := by
  refine r_aload_n 0 dX8_would_0 rfl rfl rfl ?_
  refine r_iload_n 1 dX8_would_1 rfl rfl rfl ?_
  refine r_iload_n 2 dX8_would_2 rfl rfl rfl ?_
  obtain ⟨r6, σ5, hc, h⟩ := bi_of h
  refine r_callV [.int a1, .int a2] [] [.int r6]  (coX8_refusalOfPush σ a1 a2 r6 σ5 hc) mv_RX8_153 (by decide) rfl rfl rfl rfl rfl (Nat.le_of_ble_eq_true rfl) rfl dX8_would_3 rfl ?_
  refine r_istoreV_n [(3, .int r6), (0, .ref (xad X 0)), (1, .int a1), (2, .int a2)] dX8_would_6 rfl rfl (show 3 < 4 by decide) rfl ?_
  refine r_iload_n 0 dX8_would_7 rfl rfl rfl ?_
  refine r_if_eq dX8_would_8 rfl rfl h (fun c h => ?_) (fun c h => ?_)
  · refine r_aload_n 1 dX8_would_15 rfl rfl rfl ?_
    refine r_getR fg_RX8_23 rfl rfl dX8_would_16 rfl ?_
    refine r_getL fg_RX8_157 rfl rfl dX8_would_19 rfl ?_
    refine r_iload_n 2 dX8_would_22 rfl rfl rfl ?_
    obtain ⟨r8, σ7, hc, h⟩ := bi_of h
    refine r_callS [] [.int r8]  (coX8_whereIs σ5 (σ5.2 2 6) a1 r8 σ7 hc) ms_RX8_150 (by decide) rfl rfl (Nat.le_of_ble_eq_true rfl) rfl dX8_would_23 rfl ?_
    exact r_iret rfl dX8_would_26 h hE
  · refine r_iload_n 0 dX8_would_11 rfl rfl rfl ?_
    refine r_goto dX8_would_12 rfl ?_
    exact r_iret rfl dX8_would_26 h hE
theorem coX8_would (σ : Mem) (a1 : Int32) (a2 : Int32) (r : Int32) (σ2 : Mem) (h : FX8_would σ a1 a2 = some (r, σ2)) : Con SX 6 yX8_would cX8_would 4 (some .int) (fun ad => [.ref (ad 0), .int a1, .int a2]) σ (fun _ => some (.int r)) σ2 :=
  con_of (by decide +kernel) (fun _ => Nat.le_of_ble_eq_true rfl) (fun X hE => eX8_would (out := (r, σ2)) hE σ a1 a2 h)

-- IceYard$Text isSign
abbrev mX7_isSign : MD := (cX7_isSign, RX7, 1, (some .boolean), 2)
noncomputable def FX7_isSign (σ : Mem) (a0 : Int32) : Option (Int32 × Mem) :=
  if a0 = (46 : Int32) then
  (rz (1 : Int32) σ)
  else
  (if a0 = (35 : Int32) then
  (rz (1 : Int32) σ)
  else
  (if a0 = (115 : Int32) then
  (rz (1 : Int32) σ)
  else
  (if a0 = (99 : Int32) then
  (rz (1 : Int32) σ)
  else
  (if a0 = (97 : Int32) then
  (rz (1 : Int32) σ)
  else
  (if a0 = (98 : Int32) then
  (rz (1 : Int32) σ)
  else
  (bi (FX7_kindOfSign σ a0) fun r4 σ3 =>
  if r4 < 0 then
  (rz (0 : Int32) σ3)
  else
  (rz (1 : Int32) σ3)))))))
set_option maxHeartbeats 4000000 in
set_option maxRecDepth 100000 in
theorem eX7_isSign {X : CX} {out : Int32 × Mem} (hE : Ends X SX (some (.int out.1)) out.2) (σ : Mem) (a0 : Int32) (h : FX7_isSign σ a0 = some out) : J X SX mX7_isSign σ 0 [(0, .int a0)] [] := by
  refine r_iload_n 0 dX7_isSign_0 rfl rfl rfl ?_
  refine r_bipush dX7_isSign_1 rfl kb_46 ?_
  refine r_icmp_eq dX7_isSign_3 rfl rfl h (fun c h => ?_) (fun c h => ?_)
  · refine r_iconst dX7_isSign_43 rfl ki_1 ?_
    refine r_goto dX7_isSign_44 rfl ?_
    exact r_zret rfl dX7_isSign_48 h hE
  · refine r_iload_n 0 dX7_isSign_6 rfl rfl rfl ?_
    refine r_bipush dX7_isSign_7 rfl kb_35 ?_
    refine r_icmp_eq dX7_isSign_9 rfl rfl h (fun c h => ?_) (fun c h => ?_)
    · refine r_iconst dX7_isSign_43 rfl ki_1 ?_
      refine r_goto dX7_isSign_44 rfl ?_
      exact r_zret rfl dX7_isSign_48 h hE
    · refine r_iload_n 0 dX7_isSign_12 rfl rfl rfl ?_
      refine r_bipush dX7_isSign_13 rfl kb_115 ?_
      refine r_icmp_eq dX7_isSign_15 rfl rfl h (fun c h => ?_) (fun c h => ?_)
      · refine r_iconst dX7_isSign_43 rfl ki_1 ?_
        refine r_goto dX7_isSign_44 rfl ?_
        exact r_zret rfl dX7_isSign_48 h hE
      · refine r_iload_n 0 dX7_isSign_18 rfl rfl rfl ?_
        refine r_bipush dX7_isSign_19 rfl kb_99 ?_
        refine r_icmp_eq dX7_isSign_21 rfl rfl h (fun c h => ?_) (fun c h => ?_)
        · refine r_iconst dX7_isSign_43 rfl ki_1 ?_
          refine r_goto dX7_isSign_44 rfl ?_
          exact r_zret rfl dX7_isSign_48 h hE
        · refine r_iload_n 0 dX7_isSign_24 rfl rfl rfl ?_
          refine r_bipush dX7_isSign_25 rfl kb_97 ?_
          refine r_icmp_eq dX7_isSign_27 rfl rfl h (fun c h => ?_) (fun c h => ?_)
          · refine r_iconst dX7_isSign_43 rfl ki_1 ?_
            refine r_goto dX7_isSign_44 rfl ?_
            exact r_zret rfl dX7_isSign_48 h hE
          · refine r_iload_n 0 dX7_isSign_30 rfl rfl rfl ?_
            refine r_bipush dX7_isSign_31 rfl kb_98 ?_
            refine r_icmp_eq dX7_isSign_33 rfl rfl h (fun c h => ?_) (fun c h => ?_)
            · refine r_iconst dX7_isSign_43 rfl ki_1 ?_
              refine r_goto dX7_isSign_44 rfl ?_
              exact r_zret rfl dX7_isSign_48 h hE
            · refine r_iload_n 0 dX7_isSign_36 rfl rfl rfl ?_
              obtain ⟨r4, σ3, hc, h⟩ := bi_of h
              refine r_callS [] [.int r4]  (coX7_kindOfSign σ a0 r4 σ3 hc) ms_RX7_21 (by decide) rfl rfl (Nat.le_of_ble_eq_true rfl) rfl dX7_isSign_37 rfl ?_
              refine r_if_lt dX7_isSign_40 rfl rfl h (fun c h => ?_) (fun c h => ?_)
              · refine r_iconst dX7_isSign_47 rfl ki_0 ?_
                exact r_zret rfl dX7_isSign_48 h hE
              · refine r_iconst dX7_isSign_43 rfl ki_1 ?_
                refine r_goto dX7_isSign_44 rfl ?_
                exact r_zret rfl dX7_isSign_48 h hE
theorem coX7_isSign (σ : Mem) (a0 : Int32) (r : Int32) (σ2 : Mem) (h : FX7_isSign σ a0 = some (r, σ2)) : Con SX 2 yX7_isSign cX7_isSign 1 (some .boolean) (fun ad => [.int a0]) σ (fun _ => some (.int r)) σ2 :=
  con_of (by decide +kernel) (fun _ => Nat.le_of_ble_eq_true rfl) (fun X hE => eX7_isSign (out := (r, σ2)) hE σ a0 h)
-- IceYard$Text fits
abbrev mX7_fits : MD := (cX7_fits, RX7, 4, (some .boolean), 3)
noncomputable def FX7_fits (σ : Mem) (a0 : Int32) (a1 : Int32) (a2 : Int32) (a3 : Int32) : Option (Int32 × Mem) :=
  if a1 = 0 then
  (if a0 = (105 : Int32) then
  (rz (1 : Int32) σ)
  else
  (rz (0 : Int32) σ))
  else
  (if (3 : Int32) ≤ a1 then
  (if a1 < ((3 : Int32) + (a2 * (a3 + (1 : Int32)))) then
  (bi (FX7_opensRow σ a1 a3) fun r6 σ5 =>
  if r6 = 0 then
  (bi (FX7_isSign σ5 a0) fun r8 σ7 =>
  rz r8 σ7)
  else
  (if a0 = (59 : Int32) then
  (rz (1 : Int32) σ5)
  else
  (rz (0 : Int32) σ5)))
  else
  (rz (0 : Int32) σ))
  else
  (if a0 < (51 : Int32) then
  (rz (0 : Int32) σ)
  else
  (if (54 : Int32) < a0 then
  (rz (0 : Int32) σ)
  else
  (rz (1 : Int32) σ))))
set_option maxHeartbeats 4000000 in
set_option maxRecDepth 100000 in
theorem eX7_fits {X : CX} {out : Int32 × Mem} (hE : Ends X SX (some (.int out.1)) out.2) (σ : Mem) (a0 : Int32) (a1 : Int32) (a2 : Int32) (a3 : Int32) (h : FX7_fits σ a0 a1 a2 a3 = some out) : J X SX mX7_fits σ 0 [(0, .int a0), (1, .int a1), (2, .int a2), (3, .int a3)] [] := by
  refine r_iload_n 1 dX7_fits_0 rfl rfl rfl ?_
  refine r_if_ne dX7_fits_1 rfl rfl h (fun c h => ?_) (fun c h => ?_)
  · refine r_iload_n 1 dX7_fits_16 rfl rfl rfl ?_
    refine r_iconst dX7_fits_17 rfl ki_3 ?_
    refine r_icmp_ge dX7_fits_18 rfl rfl h (fun c h => ?_) (fun c h => ?_)
    · refine r_iload_n 1 dX7_fits_39 rfl rfl rfl ?_
      refine r_iconst dX7_fits_40 rfl ki_3 ?_
      refine r_iload_n 2 dX7_fits_41 rfl rfl rfl ?_
      refine r_iload_n 3 dX7_fits_42 rfl rfl rfl ?_
      refine r_iconst dX7_fits_43 rfl ki_1 ?_
      refine r_iadd dX7_fits_44 rfl ?_
      refine r_imul dX7_fits_45 rfl ?_
      refine r_iadd dX7_fits_46 rfl ?_
      refine r_icmp_lt dX7_fits_47 rfl rfl h (fun c h => ?_) (fun c h => ?_)
      · refine r_iload_n 1 dX7_fits_52 rfl rfl rfl ?_
        refine r_iload_n 3 dX7_fits_53 rfl rfl rfl ?_
        obtain ⟨r6, σ5, hc, h⟩ := bi_of h
        refine r_callS [] [.int r6]  (coX7_opensRow σ a1 a3 r6 σ5 hc) ms_RX7_24 (by decide) rfl rfl (Nat.le_of_ble_eq_true rfl) rfl dX7_fits_54 rfl ?_
        refine r_if_eq dX7_fits_57 rfl rfl h (fun c h => ?_) (fun c h => ?_)
        · refine r_iload_n 0 dX7_fits_74 rfl rfl rfl ?_
          obtain ⟨r8, σ7, hc, h⟩ := bi_of h
          refine r_callS [] [.int r8]  (coX7_isSign σ5 a0 r8 σ7 hc) ms_RX7_28 (by decide) rfl rfl (Nat.le_of_ble_eq_true rfl) rfl dX7_fits_75 rfl ?_
          exact r_zret rfl dX7_fits_78 h hE
        · refine r_iload_n 0 dX7_fits_60 rfl rfl rfl ?_
          refine r_bipush dX7_fits_61 rfl kb_59 ?_
          refine r_icmp_ne dX7_fits_63 rfl rfl h (fun c h => ?_) (fun c h => ?_)
          · refine r_iconst dX7_fits_70 rfl ki_0 ?_
            refine r_goto dX7_fits_71 rfl ?_
            exact r_zret rfl dX7_fits_78 h hE
          · refine r_iconst dX7_fits_66 rfl ki_1 ?_
            refine r_goto dX7_fits_67 rfl ?_
            exact r_zret rfl dX7_fits_78 h hE
      · refine r_iconst dX7_fits_50 rfl ki_0 ?_
        exact r_zret rfl dX7_fits_51 h hE
    · refine r_iload_n 0 dX7_fits_21 rfl rfl rfl ?_
      refine r_bipush dX7_fits_22 rfl kb_51 ?_
      refine r_icmp_lt dX7_fits_24 rfl rfl h (fun c h => ?_) (fun c h => ?_)
      · refine r_iconst dX7_fits_37 rfl ki_0 ?_
        exact r_zret rfl dX7_fits_38 h hE
      · refine r_iload_n 0 dX7_fits_27 rfl rfl rfl ?_
        refine r_bipush dX7_fits_28 rfl kb_54 ?_
        refine r_icmp_gt dX7_fits_30 rfl rfl h (fun c h => ?_) (fun c h => ?_)
        · refine r_iconst dX7_fits_37 rfl ki_0 ?_
          exact r_zret rfl dX7_fits_38 h hE
        · refine r_iconst dX7_fits_33 rfl ki_1 ?_
          refine r_goto dX7_fits_34 rfl ?_
          exact r_zret rfl dX7_fits_38 h hE
  · refine r_iload_n 0 dX7_fits_4 rfl rfl rfl ?_
    refine r_bipush dX7_fits_5 rfl kb_105 ?_
    refine r_icmp_ne dX7_fits_7 rfl rfl h (fun c h => ?_) (fun c h => ?_)
    · refine r_iconst dX7_fits_14 rfl ki_0 ?_
      exact r_zret rfl dX7_fits_15 h hE
    · refine r_iconst dX7_fits_10 rfl ki_1 ?_
      refine r_goto dX7_fits_11 rfl ?_
      exact r_zret rfl dX7_fits_15 h hE
theorem coX7_fits (σ : Mem) (a0 : Int32) (a1 : Int32) (a2 : Int32) (a3 : Int32) (r : Int32) (σ2 : Mem) (h : FX7_fits σ a0 a1 a2 a3 = some (r, σ2)) : Con SX 3 yX7_fits cX7_fits 4 (some .boolean) (fun ad => [.int a0, .int a1, .int a2, .int a3]) σ (fun _ => some (.int r)) σ2 :=
  con_of (by decide +kernel) (fun _ => Nat.le_of_ble_eq_true rfl) (fun X hE => eX7_fits (out := (r, σ2)) hE σ a0 a1 a2 a3 h)
-- IceYard$Text firstFault
abbrev mX7_firstFault : MD := (cX7_firstFault, RX7, 9, (some .int), 4)
noncomputable def FX7_firstFault_101 (o : Nat) (rl14 : Mem → Int32 → Int32 → Int32 → Int32 → Int32 → Int32 → Int32 → Option (Int32 × Mem)) (σ : Mem) (x1 : Int32) (x2 : Int32) (x3 : Int32) (x4 : Int32) (x5 : Int32) (x6 : Int32) (x7 : Int32) : Option (Int32 × Mem) :=
  if (4 : Int32) < x5 then
  (some (x7, σ))
  else
  (if x6 ≤ (6 : Int32) then
  (nm (x7 + (1 : Int32)) fun x_12 =>
  rl14 σ x1 x2 x3 x4 x5 x6 x_12)
  else
  (some (x7, σ)))
set_option maxHeartbeats 4000000 in
set_option maxRecDepth 100000 in
theorem jX7_firstFault_101 {X : CX} {out : Int32 × Mem} (o : Nat) (ho : shOk o) (hE : Ends X SX (some (.int out.1)) out.2) (rl14 : Mem → Int32 → Int32 → Int32 → Int32 → Int32 → Int32 → Int32 → Option (Int32 × Mem)) (hr14 : ∀ (σ : Mem) (x1 : Int32) (x2 : Int32) (x3 : Int32) (x4 : Int32) (x5 : Int32) (x6 : Int32) (x7 : Int32), rl14 σ x1 x2 x3 x4 x5 x6 x7 = some out → J X SX mX7_firstFault σ 14 [(0, .ref (xad X o)), (1, .int x1), (2, .int x2), (3, .int x3), (4, .int x4), (5, .int x5), (6, .int x6), (7, .int x7)] []) (σ : Mem) (x1 : Int32) (x2 : Int32) (x3 : Int32) (x4 : Int32) (x5 : Int32) (x6 : Int32) (x7 : Int32) (h : FX7_firstFault_101 o rl14 σ x1 x2 x3 x4 x5 x6 x7 = some out) : J X SX mX7_firstFault σ 101 [(0, .ref (xad X o)), (1, .int x1), (2, .int x2), (3, .int x3), (4, .int x4), (5, .int x5), (6, .int x6), (7, .int x7)] [] := by
  refine r_iload 5 dX7_firstFault_101 rfl rfl ?_
  refine r_iconst dX7_firstFault_103 rfl ki_4 ?_
  refine r_icmp_gt dX7_firstFault_104 rfl rfl h (fun c h => ?_) (fun c h => ?_)
  · refine r_iload 7 dX7_firstFault_114 rfl rfl ?_
    exact r_iret rfl dX7_firstFault_116 h hE
  · refine r_iload 6 dX7_firstFault_107 rfl rfl ?_
    refine r_bipush dX7_firstFault_109 rfl kb_6 ?_
    refine r_icmp_le dX7_firstFault_111 rfl rfl h (fun c h => ?_) (fun c h => ?_)
    · refine r_iinc 7 (fun x_12 => [(7, .int x_12), (0, .ref (xad X o)), (1, .int x1), (2, .int x2), (3, .int x3), (4, .int x4), (5, .int x5), (6, .int x6)]) dX7_firstFault_117 rfl rfl ki_1 (show 7 < 9 by decide) (fun _ => rfl) h (fun x_12 h => ?_)
      refine r_goto dX7_firstFault_120 rfl ?_
      refine r_sub [1, 2, 3, 4, 5, 6, 7, 0] rfl ?_
      exact hr14 σ x1 x2 x3 x4 x5 x6 x_12 h
    · refine r_iload 7 dX7_firstFault_114 rfl rfl ?_
      exact r_iret rfl dX7_firstFault_116 h hE
noncomputable def BX7_firstFault_14 (o : Nat) (rl14 : Mem → Int32 → Int32 → Int32 → Int32 → Int32 → Int32 → Int32 → Option (Int32 × Mem)) (σ : Mem) (x1 : Int32) (x2 : Int32) (x3 : Int32) (x4 : Int32) (x5 : Int32) (x6 : Int32) (x7 : Int32) : Option (Int32 × Mem) :=
  if x2 ≤ x7 then
  (if x2 = ((3 : Int32) + (x3 * (x4 + (1 : Int32)))) then
  (some ((-1 : Int32), σ))
  else
  (some (x2, σ)))
  else
  (bi (FX5_read o σ (x1 + x7)) fun r14 σ13 =>
  bi (FX7_fits σ13 r14 x7 x3 x4) fun r16 σ15 =>
  if r16 = 0 then
  (some (x7, σ15))
  else
  (if x7 = (1 : Int32) then
  (nm (r14 - (48 : Int32)) fun x_22 =>
  FX7_firstFault_101 o rl14 σ15 x1 x2 x_22 x4 x5 x6 x7)
  else
  (if x7 = (2 : Int32) then
  (nm (r14 - (48 : Int32)) fun x_21 =>
  FX7_firstFault_101 o rl14 σ15 x1 x2 x3 x_21 x5 x6 x7)
  else
  (if r14 = (99 : Int32) then
  (nm (x5 + (1 : Int32)) fun x_20 =>
  FX7_firstFault_101 o rl14 σ15 x1 x2 x3 x4 x_20 x6 x7)
  else
  (bi (FX7_kindOfSign σ15 r14) fun r18 σ17 =>
  if r18 < 0 then
  (FX7_firstFault_101 o rl14 σ17 x1 x2 x3 x4 x5 x6 x7)
  else
  (nm (x6 + (1 : Int32)) fun x_19 =>
  FX7_firstFault_101 o rl14 σ17 x1 x2 x3 x4 x5 x_19 x7))))))
set_option maxHeartbeats 4000000 in
set_option maxRecDepth 100000 in
theorem jX7_firstFault_14 {X : CX} {out : Int32 × Mem} (o : Nat) (ho : shOk o) (hE : Ends X SX (some (.int out.1)) out.2) (rl14 : Mem → Int32 → Int32 → Int32 → Int32 → Int32 → Int32 → Int32 → Option (Int32 × Mem)) (hr14 : ∀ (σ : Mem) (x1 : Int32) (x2 : Int32) (x3 : Int32) (x4 : Int32) (x5 : Int32) (x6 : Int32) (x7 : Int32), rl14 σ x1 x2 x3 x4 x5 x6 x7 = some out → J X SX mX7_firstFault σ 14 [(0, .ref (xad X o)), (1, .int x1), (2, .int x2), (3, .int x3), (4, .int x4), (5, .int x5), (6, .int x6), (7, .int x7)] []) (σ : Mem) (x1 : Int32) (x2 : Int32) (x3 : Int32) (x4 : Int32) (x5 : Int32) (x6 : Int32) (x7 : Int32) (h : BX7_firstFault_14 o rl14 σ x1 x2 x3 x4 x5 x6 x7 = some out) : J X SX mX7_firstFault σ 14 [(0, .ref (xad X o)), (1, .int x1), (2, .int x2), (3, .int x3), (4, .int x4), (5, .int x5), (6, .int x6), (7, .int x7)] [] := by
  refine r_iload 7 dX7_firstFault_14 rfl rfl ?_
  refine r_iload_n 2 dX7_firstFault_16 rfl rfl rfl ?_
  refine r_icmp_ge dX7_firstFault_17 rfl rfl h (fun c h => ?_) (fun c h => ?_)
  · refine r_iload_n 2 dX7_firstFault_123 rfl rfl rfl ?_
    refine r_iconst dX7_firstFault_124 rfl ki_3 ?_
    refine r_iload_n 3 dX7_firstFault_125 rfl rfl rfl ?_
    refine r_iload 4 dX7_firstFault_126 rfl rfl ?_
    refine r_iconst dX7_firstFault_128 rfl ki_1 ?_
    refine r_iadd dX7_firstFault_129 rfl ?_
    refine r_imul dX7_firstFault_130 rfl ?_
    refine r_iadd dX7_firstFault_131 rfl ?_
    refine r_icmp_ne dX7_firstFault_132 rfl rfl h (fun c h => ?_) (fun c h => ?_)
    · refine r_iload_n 2 dX7_firstFault_139 rfl rfl rfl ?_
      exact r_iret rfl dX7_firstFault_140 h hE
    · refine r_iconst dX7_firstFault_135 rfl ki_m1 ?_
      refine r_goto dX7_firstFault_136 rfl ?_
      exact r_iret rfl dX7_firstFault_140 h hE
  · refine r_aload_n 0 dX7_firstFault_20 rfl rfl rfl ?_
    refine r_iload_n 1 dX7_firstFault_21 rfl rfl rfl ?_
    refine r_iload 7 dX7_firstFault_22 rfl rfl ?_
    refine r_iadd dX7_firstFault_24 rfl ?_
    obtain ⟨r14, σ13, hc, h⟩ := bi_of h
    refine r_callV [.int (x1 + x7)] [] [.int r14]  (coX5_read o ho σ (x1 + x7) r14 σ13 hc) mv_RX7_9 (by decide) (sx_obj ho) rfl rfl rfl rfl (Nat.le_of_ble_eq_true rfl) rfl dX7_firstFault_25 rfl ?_
    refine r_istoreV [(8, .int r14), (0, .ref (xad X o)), (1, .int x1), (2, .int x2), (3, .int x3), (4, .int x4), (5, .int x5), (6, .int x6), (7, .int x7)] dX7_firstFault_28 rfl (show 8 < 9 by decide) rfl ?_
    refine r_iload 0 dX7_firstFault_30 rfl rfl ?_
    refine r_iload 8 dX7_firstFault_32 rfl rfl ?_
    refine r_iload_n 4 dX7_firstFault_34 rfl rfl rfl ?_
    refine r_iload 5 dX7_firstFault_35 rfl rfl ?_
    obtain ⟨r16, σ15, hc, h⟩ := bi_of h
    refine r_callS [] [.int r16]  (coX7_fits σ13 r14 x7 x3 x4 r16 σ15 hc) ms_RX7_15 (by decide) rfl rfl (Nat.le_of_ble_eq_true rfl) rfl dX7_firstFault_37 rfl ?_
    refine r_if_ne dX7_firstFault_40 rfl rfl h (fun c h => ?_) (fun c h => ?_)
    · refine r_iload 8 dX7_firstFault_46 rfl rfl ?_
      refine r_iconst dX7_firstFault_48 rfl ki_1 ?_
      refine r_icmp_ne dX7_firstFault_49 rfl rfl h (fun c h => ?_) (fun c h => ?_)
      · refine r_iload 8 dX7_firstFault_61 rfl rfl ?_
        refine r_iconst dX7_firstFault_63 rfl ki_2 ?_
        refine r_icmp_ne dX7_firstFault_64 rfl rfl h (fun c h => ?_) (fun c h => ?_)
        · refine r_iload 0 dX7_firstFault_77 rfl rfl ?_
          refine r_bipush dX7_firstFault_79 rfl kb_99 ?_
          refine r_icmp_ne dX7_firstFault_81 rfl rfl h (fun c h => ?_) (fun c h => ?_)
          · refine r_iload 0 dX7_firstFault_90 rfl rfl ?_
            obtain ⟨r18, σ17, hc, h⟩ := bi_of h
            refine r_callS [] [.int r18]  (coX7_kindOfSign σ15 r14 r18 σ17 hc) ms_RX7_21 (by decide) rfl rfl (Nat.le_of_ble_eq_true rfl) rfl dX7_firstFault_92 rfl ?_
            refine r_if_lt dX7_firstFault_95 rfl rfl h (fun c h => ?_) (fun c h => ?_)
            · refine r_sub [1, 2, 3, 4, 5, 6, 7, 8] rfl ?_
              exact jX7_firstFault_101 o ho hE rl14 hr14 σ17 x1 x2 x3 x4 x5 x6 x7 h
            · refine r_iinc 7 (fun x_19 => [(6, .int x_19), (8, .int r14), (0, .ref (xad X o)), (1, .int x1), (2, .int x2), (3, .int x3), (4, .int x4), (5, .int x5), (7, .int x7)]) dX7_firstFault_98 rfl rfl ki_1 (show 6 < 9 by decide) (fun _ => rfl) h (fun x_19 h => ?_)
              refine r_sub [2, 3, 4, 5, 6, 7, 0, 8] rfl ?_
              exact jX7_firstFault_101 o ho hE rl14 hr14 σ17 x1 x2 x3 x4 x5 x_19 x7 h
          · refine r_iinc 6 (fun x_20 => [(5, .int x_20), (8, .int r14), (0, .ref (xad X o)), (1, .int x1), (2, .int x2), (3, .int x3), (4, .int x4), (6, .int x6), (7, .int x7)]) dX7_firstFault_84 rfl rfl ki_1 (show 5 < 9 by decide) (fun _ => rfl) h (fun x_20 h => ?_)
            refine r_goto dX7_firstFault_87 rfl ?_
            refine r_sub [2, 3, 4, 5, 6, 0, 7, 8] rfl ?_
            exact jX7_firstFault_101 o ho hE rl14 hr14 σ15 x1 x2 x3 x4 x_20 x6 x7 h
        · refine r_iload 0 dX7_firstFault_67 rfl rfl ?_
          refine r_bipush dX7_firstFault_69 rfl kb_48 ?_
          refine r_isub dX7_firstFault_71 rfl ?_
          refine r_istore (fun x_21 => [(4, .int x_21), (8, .int r14), (0, .ref (xad X o)), (1, .int x1), (2, .int x2), (3, .int x3), (5, .int x5), (6, .int x6), (7, .int x7)]) dX7_firstFault_72 rfl (show 4 < 9 by decide) (fun _ => rfl) h (fun x_21 h => ?_)
          refine r_goto dX7_firstFault_74 rfl ?_
          refine r_sub [2, 3, 4, 5, 0, 6, 7, 8] rfl ?_
          exact jX7_firstFault_101 o ho hE rl14 hr14 σ15 x1 x2 x3 x_21 x5 x6 x7 h
      · refine r_iload 0 dX7_firstFault_52 rfl rfl ?_
        refine r_bipush dX7_firstFault_54 rfl kb_48 ?_
        refine r_isub dX7_firstFault_56 rfl ?_
        refine r_istore_n (fun x_22 => [(3, .int x_22), (8, .int r14), (0, .ref (xad X o)), (1, .int x1), (2, .int x2), (4, .int x4), (5, .int x5), (6, .int x6), (7, .int x7)]) dX7_firstFault_57 rfl rfl (show 3 < 9 by decide) (fun _ => rfl) h (fun x_22 h => ?_)
        refine r_goto dX7_firstFault_58 rfl ?_
        refine r_sub [2, 3, 4, 0, 5, 6, 7, 8] rfl ?_
        exact jX7_firstFault_101 o ho hE rl14 hr14 σ15 x1 x2 x_22 x4 x5 x6 x7 h
    · refine r_iload 8 dX7_firstFault_43 rfl rfl ?_
      exact r_iret rfl dX7_firstFault_45 h hE
noncomputable def FX7_firstFault_14 (o : Nat) (n : Nat) : Mem → Int32 → Int32 → Int32 → Int32 → Int32 → Int32 → Int32 → Option (Int32 × Mem) :=
  Nat.rec (fun _ _ _ _ _ _ _ _ => none) (fun _ ih => BX7_firstFault_14 o ih) n
theorem lX7_firstFault_14 {X : CX} {out : Int32 × Mem} (o : Nat) (ho : shOk o) (hE : Ends X SX (some (.int out.1)) out.2) : ∀ (n : Nat) (σ : Mem) (x1 : Int32) (x2 : Int32) (x3 : Int32) (x4 : Int32) (x5 : Int32) (x6 : Int32) (x7 : Int32), FX7_firstFault_14 o n σ x1 x2 x3 x4 x5 x6 x7 = some out → J X SX mX7_firstFault σ 14 [(0, .ref (xad X o)), (1, .int x1), (2, .int x2), (3, .int x3), (4, .int x4), (5, .int x5), (6, .int x6), (7, .int x7)] [] := by
  intro n
  induction n with
  | zero => intro σ x1 x2 x3 x4 x5 x6 x7 h; exact nn h
  | succ n ih => intro σ x1 x2 x3 x4 x5 x6 x7 h; exact jX7_firstFault_14 o ho hE (FX7_firstFault_14 o n) ih σ x1 x2 x3 x4 x5 x6 x7 h
noncomputable def FX7_firstFault (o : Nat) (σ : Mem) (a1 : Int32) (a2 : Int32) : Option (Int32 × Mem) :=
  FX7_firstFault_14 o FU σ a1 a2 (3 : Int32) (3 : Int32) (0 : Int32) (0 : Int32) (0 : Int32)
set_option maxHeartbeats 4000000 in
set_option maxRecDepth 100000 in
theorem eX7_firstFault {X : CX} {out : Int32 × Mem} (o : Nat) (ho : shOk o) (hE : Ends X SX (some (.int out.1)) out.2) (σ : Mem) (a1 : Int32) (a2 : Int32) (h : FX7_firstFault o σ a1 a2 = some out) : J X SX mX7_firstFault σ 0 [(0, .ref (xad X o)), (1, .int a1), (2, .int a2)] [] := by
  refine r_iconst dX7_firstFault_0 rfl ki_3 ?_
  refine r_istoreV_n [(3, .int (3 : Int32)), (0, .ref (xad X o)), (1, .int a1), (2, .int a2)] dX7_firstFault_1 rfl rfl (show 3 < 9 by decide) rfl ?_
  refine r_iconst dX7_firstFault_2 rfl ki_3 ?_
  refine r_istoreV [(4, .int (3 : Int32)), (3, .int (3 : Int32)), (0, .ref (xad X o)), (1, .int a1), (2, .int a2)] dX7_firstFault_3 rfl (show 4 < 9 by decide) rfl ?_
  refine r_iconst dX7_firstFault_5 rfl ki_0 ?_
  refine r_istoreV [(5, .int (0 : Int32)), (4, .int (3 : Int32)), (3, .int (3 : Int32)), (0, .ref (xad X o)), (1, .int a1), (2, .int a2)] dX7_firstFault_6 rfl (show 5 < 9 by decide) rfl ?_
  refine r_iconst dX7_firstFault_8 rfl ki_0 ?_
  refine r_istoreV [(6, .int (0 : Int32)), (5, .int (0 : Int32)), (4, .int (3 : Int32)), (3, .int (3 : Int32)), (0, .ref (xad X o)), (1, .int a1), (2, .int a2)] dX7_firstFault_9 rfl (show 6 < 9 by decide) rfl ?_
  refine r_iconst dX7_firstFault_11 rfl ki_0 ?_
  refine r_istoreV [(7, .int (0 : Int32)), (6, .int (0 : Int32)), (5, .int (0 : Int32)), (4, .int (3 : Int32)), (3, .int (3 : Int32)), (0, .ref (xad X o)), (1, .int a1), (2, .int a2)] dX7_firstFault_12 rfl (show 7 < 9 by decide) rfl ?_
  refine r_sub [5, 6, 7, 4, 3, 2, 1, 0] rfl ?_
  exact lX7_firstFault_14 o ho hE FU σ a1 a2 (3 : Int32) (3 : Int32) (0 : Int32) (0 : Int32) (0 : Int32) h
theorem coX7_firstFault (o : Nat) (ho : shOk o) (σ : Mem) (a1 : Int32) (a2 : Int32) (r : Int32) (σ2 : Mem) (h : FX7_firstFault o σ a1 a2 = some (r, σ2)) : Con SX 4 yX7_firstFault cX7_firstFault 9 (some .int) (fun ad => [.ref (ad o), .int a1, .int a2]) σ (fun _ => some (.int r)) σ2 :=
  con_of (by decide +kernel) (fun _ => Nat.le_of_ble_eq_true rfl) (fun X hE => eX7_firstFault o ho (out := (r, σ2)) hE σ a1 a2 h)
-- IceYard yard
abbrev mX8_yard : MD := (cX8_yard, RX8, 8, (some .int), 6)
noncomputable def FX8_yard_69 (σ : Mem) (x3 : Int32) (x4 : Int32) (o5 : Nat) (x6 : Int32) : Option (Int32 × Mem) :=
  if x6 = 0 then
  (bi (FX7_firstFault o5 σ x3 x4) fun r17 σ16 =>
  if r17 < 0 then
  (bv (FX8_takeYard o5 σ16 x3 x4) fun σ18 =>
  some ((σ18.1 1 6), σ18))
  else
  (some (((-100 : Int32) - r17), σ16)))
  else
  (bi (FX8_faulty σ x6) fun r20 σ19 =>
  some (r20, σ19))
set_option maxHeartbeats 4000000 in
set_option maxRecDepth 100000 in
theorem jX8_yard_69 {X : CX} {out : Int32 × Mem} (hE : Ends X SX (some (.int out.1)) out.2) (σ : Mem) (x3 : Int32) (x4 : Int32) (o5 : Nat) (x6 : Int32) (ho5 : shOk o5) (h : FX8_yard_69 σ x3 x4 o5 x6 = some out) : J X SX mX8_yard σ 69 [(0, .ref (xad X 0)), (3, .int x3), (4, .int x4), (5, .ref (xad X o5)), (6, .int x6)] [] := by
  refine r_iload 4 dX8_yard_69 rfl rfl ?_
  refine r_if_eq dX8_yard_71 rfl rfl h (fun c h => ?_) (fun c h => ?_)
  · refine r_aload 3 dX8_yard_81 rfl rfl ?_
    refine r_iload_n 1 dX8_yard_83 rfl rfl rfl ?_
    refine r_iload 2 dX8_yard_84 rfl rfl ?_
    obtain ⟨r17, σ16, hc, h⟩ := bi_of h
    refine r_callS [] [.int r17]  (coX7_firstFault o5 ho5 σ x3 x4 r17 σ16 hc) ms_RX8_96 (by decide) rfl rfl (Nat.le_of_ble_eq_true rfl) rfl dX8_yard_86 rfl ?_
    refine r_istoreV [(7, .int r17), (0, .ref (xad X 0)), (3, .int x3), (4, .int x4), (5, .ref (xad X o5)), (6, .int x6)] dX8_yard_89 rfl (show 7 < 8 by decide) rfl ?_
    refine r_iload 0 dX8_yard_91 rfl rfl ?_
    refine r_if_lt dX8_yard_93 rfl rfl h (fun c h => ?_) (fun c h => ?_)
    · refine r_aload_n 1 dX8_yard_102 rfl rfl rfl ?_
      refine r_aload 4 dX8_yard_103 rfl rfl ?_
      refine r_iload_n 2 dX8_yard_105 rfl rfl rfl ?_
      refine r_iload 3 dX8_yard_106 rfl rfl ?_
      obtain ⟨σ18, hc, h⟩ := bv_of h
      refine r_callV [.ref (xad X o5), .int x3, .int x4] [] []  (coX8_takeYard o5 ho5 σ16 x3 x4 σ18 hc) mv_RX8_102 (by decide) rfl rfl rfl rfl rfl (Nat.le_of_ble_eq_true rfl) rfl dX8_yard_108 rfl ?_
      refine r_aload_n 1 dX8_yard_111 rfl rfl rfl ?_
      refine r_getR fg_RX8_14 rfl rfl dX8_yard_112 rfl ?_
      refine r_getI fg_RX8_106 rfl rfl dX8_yard_115 rfl ?_
      exact r_iret rfl dX8_yard_118 h hE
    · refine r_bipush dX8_yard_96 rfl kb_m100 ?_
      refine r_iload 0 dX8_yard_98 rfl rfl ?_
      refine r_isub dX8_yard_100 rfl ?_
      exact r_iret rfl dX8_yard_101 h hE
  · refine r_aload_n 0 dX8_yard_74 rfl rfl rfl ?_
    refine r_iload 4 dX8_yard_75 rfl rfl ?_
    obtain ⟨r20, σ19, hc, h⟩ := bi_of h
    refine r_callV [.int x6] [] [.int r20]  (coX8_faulty σ x6 r20 σ19 hc) mv_RX8_93 (by decide) rfl rfl rfl rfl rfl (Nat.le_of_ble_eq_true rfl) rfl dX8_yard_77 rfl ?_
    exact r_iret rfl dX8_yard_80 h hE
noncomputable def FX8_yard_50 (σ : Mem) (x3 : Int32) (x4 : Int32) (o5 : Nat) (x6 : Int32) : Option (Int32 × Mem) :=
  if x6 = 0 then
  (bi (FX5_hasCells o5 σ x3 x4) fun r22 σ21 =>
  if r22 = 0 then
  (FX8_yard_69 σ21 x3 x4 o5 (3 : Int32))
  else
  (FX8_yard_69 σ21 x3 x4 o5 x6))
  else
  (FX8_yard_69 σ x3 x4 o5 x6)
set_option maxHeartbeats 4000000 in
set_option maxRecDepth 100000 in
theorem jX8_yard_50 {X : CX} {out : Int32 × Mem} (hE : Ends X SX (some (.int out.1)) out.2) (σ : Mem) (x3 : Int32) (x4 : Int32) (o5 : Nat) (x6 : Int32) (ho5 : shOk o5) (h : FX8_yard_50 σ x3 x4 o5 x6 = some out) : J X SX mX8_yard σ 50 [(0, .ref (xad X 0)), (3, .int x3), (4, .int x4), (5, .ref (xad X o5)), (6, .int x6)] [] := by
  refine r_iload 4 dX8_yard_50 rfl rfl ?_
  refine r_if_ne dX8_yard_52 rfl rfl h (fun c h => ?_) (fun c h => ?_)
  · exact jX8_yard_69 hE σ x3 x4 o5 x6 ho5 h
  · refine r_aload 3 dX8_yard_55 rfl rfl ?_
    refine r_iload_n 1 dX8_yard_57 rfl rfl rfl ?_
    refine r_iload 2 dX8_yard_58 rfl rfl ?_
    obtain ⟨r22, σ21, hc, h⟩ := bi_of h
    refine r_callV [.int x3, .int x4] [] [.int r22]  (coX5_hasCells o5 ho5 σ x3 x4 r22 σ21 hc) mv_RX8_89 (by decide) (sx_obj ho5) rfl rfl rfl rfl (Nat.le_of_ble_eq_true rfl) rfl dX8_yard_60 rfl ?_
    refine r_if_ne dX8_yard_63 rfl rfl h (fun c h => ?_) (fun c h => ?_)
    · exact jX8_yard_69 hE σ21 x3 x4 o5 x6 ho5 h
    · refine r_iconst dX8_yard_66 rfl ki_3 ?_
      refine r_istoreV [(6, .int (3 : Int32)), (0, .ref (xad X 0)), (3, .int x3), (4, .int x4), (5, .ref (xad X o5))] dX8_yard_67 rfl (show 6 < 8 by decide) rfl ?_
      refine r_sub [1, 2, 3, 4, 0] rfl ?_
      exact jX8_yard_69 hE σ21 x3 x4 o5 (3 : Int32) ho5 h
noncomputable def FX8_yard (σ : Mem) (a1 : Int32) (a2 : Int32) (a3 : Int32) (a4 : Int32) : Option (Int32 × Mem) :=
  nm (setI σ 0 12 (0 : Int32)) fun σ23 =>
  bi (FX8_sheetAt σ23 a1) fun v25 σ24 =>
  sh v25 (some ((-1 : Int32), σ24)) fun o_26 =>
  bi (FX8_isLane σ24 a2) fun r28 σ27 =>
  if r28 = 0 then
  (some ((-2 : Int32), σ27))
  else
  (bi (FX5_faultTakenAs o_26 σ27 a2) fun r30 σ29 =>
  if r30 = 0 then
  (if 0 ≤ a4 then
  (FX8_yard_50 σ29 a3 a4 o_26 r30)
  else
  (FX8_yard_50 σ29 a3 a4 o_26 (4 : Int32)))
  else
  (FX8_yard_50 σ29 a3 a4 o_26 r30))
set_option maxHeartbeats 4000000 in
set_option maxRecDepth 100000 in
theorem eX8_yard {X : CX} {out : Int32 × Mem} (hE : Ends X SX (some (.int out.1)) out.2) (σ : Mem) (a1 : Int32) (a2 : Int32) (a3 : Int32) (a4 : Int32) (h : FX8_yard σ a1 a2 a3 a4 = some out) : J X SX mX8_yard σ 0 [(0, .ref (xad X 0)), (1, .int a1), (2, .int a2), (3, .int a3), (4, .int a4)] [] := by
  refine r_aload_n 0 dX8_yard_0 rfl rfl rfl ?_
  refine r_iconst dX8_yard_1 rfl ki_0 ?_
  refine r_putI fp_RX8_73 rfl rfl dX8_yard_2 rfl h (fun σ23 h => ?_)
  refine r_aload_n 0 dX8_yard_5 rfl rfl rfl ?_
  refine r_iload_n 1 dX8_yard_6 rfl rfl rfl ?_
  obtain ⟨v25, σ24, hc, h⟩ := bi_of h
  rcases sh_of h with ⟨hv, h⟩ | ⟨o_26, hv, ho_26, h⟩
  · rw [hv] at hc
    refine r_callV [.int a1] [] [.null]  (coX8_sheetAt σ23 a1 none σ24 hc) mv_RX8_77 (by decide) rfl rfl rfl rfl rfl (Nat.le_of_ble_eq_true rfl) rfl dX8_yard_7 rfl ?_
    refine r_astoreN [(5, .null), (0, .ref (xad X 0)), (1, .int a1), (2, .int a2), (3, .int a3), (4, .int a4)] dX8_yard_10 rfl (show 5 < 8 by decide) rfl ?_
    refine r_aloadN 0 dX8_yard_12 rfl rfl ?_
    refine r_ifnonnullN dX8_yard_14 rfl ?_
    refine r_iconst dX8_yard_17 rfl ki_m1 ?_
    exact r_iret rfl dX8_yard_18 h hE
  · rw [hv] at hc
    refine r_callV [.int a1] [] [.ref (xad X o_26)]  (coX8_sheetAt σ23 a1 (some o_26) σ24 hc) mv_RX8_77 (by decide) rfl rfl rfl rfl rfl (Nat.le_of_ble_eq_true rfl) rfl dX8_yard_7 rfl ?_
    refine r_astore [(5, .ref (xad X o_26)), (0, .ref (xad X 0)), (1, .int a1), (2, .int a2), (3, .int a3), (4, .int a4)] dX8_yard_10 rfl (show 5 < 8 by decide) rfl ?_
    refine r_aload 0 dX8_yard_12 rfl rfl ?_
    refine r_ifnonnull dX8_yard_14 rfl ?_
    refine r_iload_n 3 dX8_yard_19 rfl rfl rfl ?_
    obtain ⟨r28, σ27, hc, h⟩ := bi_of h
    refine r_callS [] [.int r28]  (coX8_isLane σ24 a2 r28 σ27 hc) ms_RX8_81 (by decide) rfl rfl (Nat.le_of_ble_eq_true rfl) rfl dX8_yard_20 rfl ?_
    refine r_if_ne dX8_yard_23 rfl rfl h (fun c h => ?_) (fun c h => ?_)
    · refine r_aload 0 dX8_yard_29 rfl rfl ?_
      refine r_iload_n 3 dX8_yard_31 rfl rfl rfl ?_
      obtain ⟨r30, σ29, hc, h⟩ := bi_of h
      refine r_callV [.int a2] [] [.int r30]  (coX5_faultTakenAs o_26 ho_26 σ27 a2 r30 σ29 hc) mv_RX8_85 (by decide) (sx_obj ho_26) rfl rfl rfl rfl (Nat.le_of_ble_eq_true rfl) rfl dX8_yard_32 rfl ?_
      refine r_istoreV [(6, .int r30), (5, .ref (xad X o_26)), (0, .ref (xad X 0)), (1, .int a1), (2, .int a2), (3, .int a3), (4, .int a4)] dX8_yard_35 rfl (show 6 < 8 by decide) rfl ?_
      refine r_iload 0 dX8_yard_37 rfl rfl ?_
      refine r_if_ne dX8_yard_39 rfl rfl h (fun c h => ?_) (fun c h => ?_)
      · refine r_sub [2, 5, 6, 1, 0] rfl ?_
        exact jX8_yard_50 hE σ29 a3 a4 o_26 r30 ho_26 h
      · refine r_iload 6 dX8_yard_42 rfl rfl ?_
        refine r_if_ge dX8_yard_44 rfl rfl h (fun c h => ?_) (fun c h => ?_)
        · refine r_sub [2, 5, 6, 1, 0] rfl ?_
          exact jX8_yard_50 hE σ29 a3 a4 o_26 r30 ho_26 h
        · refine r_iconst dX8_yard_47 rfl ki_4 ?_
          refine r_istoreV [(6, .int (4 : Int32)), (5, .ref (xad X o_26)), (0, .ref (xad X 0)), (1, .int a1), (2, .int a2), (3, .int a3), (4, .int a4)] dX8_yard_48 rfl (show 6 < 8 by decide) rfl ?_
          refine r_sub [2, 5, 6, 1, 0] rfl ?_
          exact jX8_yard_50 hE σ29 a3 a4 o_26 (4 : Int32) ho_26 h
    · refine r_bipush dX8_yard_26 rfl kb_m2 ?_
      exact r_iret rfl dX8_yard_28 h hE
theorem coX8_yard (σ : Mem) (a1 : Int32) (a2 : Int32) (a3 : Int32) (a4 : Int32) (r : Int32) (σ2 : Mem) (h : FX8_yard σ a1 a2 a3 a4 = some (r, σ2)) : Con SX 6 yX8_yard cX8_yard 8 (some .int) (fun ad => [.ref (ad 0), .int a1, .int a2, .int a3, .int a4]) σ (fun _ => some (.int r)) σ2 :=
  con_of (by decide +kernel) (fun _ => Nat.le_of_ble_eq_true rfl) (fun X hE => eX8_yard (out := (r, σ2)) hE σ a1 a2 a3 a4 h)

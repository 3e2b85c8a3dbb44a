-- IceYard sand
abbrev mX8_sand : MD := (cX8_sand, RX8, 6, (some .int), 20)
noncomputable def FX8_sand (σ : Mem) (a1 : Int32) (a2 : Int32) (a3 : Int32) (a4 : Int32) : Option (Int32 × Mem) :=
  bi (FX1_hasBlock σ a1) fun r8 σ7 =>
  if r8 = 0 then
  (some ((-1 : Int32), σ7))
  else
  (bi (FX8_isGate σ7 a2) fun r10 σ9 =>
  if r10 = 0 then
  (some ((-1 : Int32), σ9))
  else
  (if a4 < (-1 : Int32) then
  (some ((-1 : Int32), σ9))
  else
  (if a4 ≤ (1 : Int32) then
  (if a3 < (1 : Int32) then
  (some ((-2 : Int32), σ9))
  else
  (if a3 ≤ (2 : Int32) then
  (bi (FX3_fewestCells σ9 (σ9.2 0 9) a1 a2 a3) fun r12 σ11 =>
  if r12 < 0 then
  (some (r12, σ11))
  else
  (if a4 = (-1 : Int32) then
  (some (r12, σ11))
  else
  (if r12 ≤ a4 then
  (some ((-9 : Int32), σ11))
  else
  (some ((σ11.1 6 2), σ11)))))
  else
  (some ((-2 : Int32), σ9))))
  else
  (some ((-1 : Int32), σ9)))))
set_option maxHeartbeats 4000000 in
set_option maxRecDepth 100000 in
theorem eX8_sand {X : CX} {out : Int32 × Mem} (hE : Ends X SX (some (.int out.1)) out.2) (σ : Mem) (a1 : Int32) (a2 : Int32) (a3 : Int32) (a4 : Int32) (h : FX8_sand σ a1 a2 a3 a4 = some out) : J X SX mX8_sand σ 0 [(0, .ref (xad X 0)), (1, .int a1), (2, .int a2), (3, .int a3), (4, .int a4)] [] := by
  refine r_aload_n 0 dX8_sand_0 rfl rfl rfl ?_
  refine r_getR fg_RX8_14 rfl rfl dX8_sand_1 rfl ?_
  refine r_iload_n 1 dX8_sand_4 rfl rfl rfl ?_
  obtain ⟨r8, σ7, hc, h⟩ := bi_of h
  refine r_callV [.int a1] [] [.int r8]  (coX1_hasBlock σ a1 r8 σ7 hc) mv_RX8_144 (by decide) rfl rfl rfl rfl rfl (Nat.le_of_ble_eq_true rfl) rfl dX8_sand_5 rfl ?_
  refine r_if_eq dX8_sand_8 rfl rfl h (fun c h => ?_) (fun c h => ?_)
  · refine r_iconst dX8_sand_30 rfl ki_m1 ?_
    exact r_iret rfl dX8_sand_31 h hE
  · refine r_iload_n 2 dX8_sand_11 rfl rfl rfl ?_
    obtain ⟨r10, σ9, hc, h⟩ := bi_of h
    refine r_callS [] [.int r10]  (coX8_isGate σ7 a2 r10 σ9 hc) ms_RX8_169 (by decide) rfl rfl (Nat.le_of_ble_eq_true rfl) rfl dX8_sand_12 rfl ?_
    refine r_if_eq dX8_sand_15 rfl rfl h (fun c h => ?_) (fun c h => ?_)
    · refine r_iconst dX8_sand_30 rfl ki_m1 ?_
      exact r_iret rfl dX8_sand_31 h hE
    · refine r_iload 4 dX8_sand_18 rfl rfl ?_
      refine r_iconst dX8_sand_20 rfl ki_m1 ?_
      refine r_icmp_lt dX8_sand_21 rfl rfl h (fun c h => ?_) (fun c h => ?_)
      · refine r_iconst dX8_sand_30 rfl ki_m1 ?_
        exact r_iret rfl dX8_sand_31 h hE
      · refine r_iload 4 dX8_sand_24 rfl rfl ?_
        refine r_iconst dX8_sand_26 rfl ki_1 ?_
        refine r_icmp_le dX8_sand_27 rfl rfl h (fun c h => ?_) (fun c h => ?_)
        · refine r_iload_n 3 dX8_sand_32 rfl rfl rfl ?_
          refine r_iconst dX8_sand_33 rfl ki_1 ?_
          refine r_icmp_lt dX8_sand_34 rfl rfl h (fun c h => ?_) (fun c h => ?_)
          · refine r_bipush dX8_sand_42 rfl kb_m2 ?_
            exact r_iret rfl dX8_sand_44 h hE
          · refine r_iload_n 3 dX8_sand_37 rfl rfl rfl ?_
            refine r_iconst dX8_sand_38 rfl ki_2 ?_
            refine r_icmp_le dX8_sand_39 rfl rfl h (fun c h => ?_) (fun c h => ?_)
            · refine r_aload_n 0 dX8_sand_45 rfl rfl rfl ?_
              refine r_getR fg_RX8_53 rfl rfl dX8_sand_46 rfl ?_
              refine r_aload_n 0 dX8_sand_49 rfl rfl rfl ?_
              refine r_getL fg_RX8_119 rfl rfl dX8_sand_50 rfl ?_
              refine r_iload_n 1 dX8_sand_53 rfl rfl rfl ?_
              refine r_iload_n 2 dX8_sand_54 rfl rfl rfl ?_
              refine r_iload_n 3 dX8_sand_55 rfl rfl rfl ?_
              obtain ⟨r12, σ11, hc, h⟩ := bi_of h
              refine r_callV [.long (σ9.2 0 9), .int a1, .int a2, .int a3] [] [.int r12]  (coX3_fewestCells σ9 (σ9.2 0 9) a1 a2 a3 r12 σ11 hc) mv_RX8_189 (by decide) rfl rfl rfl rfl rfl (Nat.le_of_ble_eq_true rfl) rfl dX8_sand_56 rfl ?_
              refine r_istoreV [(5, .int r12), (0, .ref (xad X 0)), (1, .int a1), (2, .int a2), (3, .int a3), (4, .int a4)] dX8_sand_59 rfl (show 5 < 6 by decide) rfl ?_
              refine r_iload 0 dX8_sand_61 rfl rfl ?_
              refine r_if_lt dX8_sand_63 rfl rfl h (fun c h => ?_) (fun c h => ?_)
              · refine r_iload 0 dX8_sand_72 rfl rfl ?_
                exact r_iret rfl dX8_sand_74 h hE
              · refine r_iload 5 dX8_sand_66 rfl rfl ?_
                refine r_iconst dX8_sand_68 rfl ki_m1 ?_
                refine r_icmp_ne dX8_sand_69 rfl rfl h (fun c h => ?_) (fun c h => ?_)
                · refine r_iload 5 dX8_sand_75 rfl rfl ?_
                  refine r_iload 0 dX8_sand_77 rfl rfl ?_
                  refine r_icmp_ge dX8_sand_79 rfl rfl h (fun c h => ?_) (fun c h => ?_)
                  · refine r_bipush dX8_sand_92 rfl kb_m9 ?_
                    exact r_iret rfl dX8_sand_94 h hE
                  · refine r_aload_n 1 dX8_sand_82 rfl rfl rfl ?_
                    refine r_getR fg_RX8_53 rfl rfl dX8_sand_83 rfl ?_
                    refine r_getI fg_RX8_193 rfl rfl dX8_sand_86 rfl ?_
                    refine r_goto dX8_sand_89 rfl ?_
                    exact r_iret rfl dX8_sand_94 h hE
                · refine r_iload 0 dX8_sand_72 rfl rfl ?_
                  exact r_iret rfl dX8_sand_74 h hE
            · refine r_bipush dX8_sand_42 rfl kb_m2 ?_
              exact r_iret rfl dX8_sand_44 h hE
        · refine r_iconst dX8_sand_30 rfl ki_m1 ?_
          exact r_iret rfl dX8_sand_31 h hE
theorem coX8_sand (σ : Mem) (a1 : Int32) (a2 : Int32) (a3 : Int32) (a4 : Int32) (r : Int32) (σ2 : Mem) (h : FX8_sand σ a1 a2 a3 a4 = some (r, σ2)) : Con SX 20 yX8_sand cX8_sand 6 (some .int) (fun ad => [.ref (ad 0), .int a1, .int a2, .int a3, .int a4]) σ (fun _ => some (.int r)) σ2 :=
  con_of (by decide +kernel) (fun _ => Nat.le_of_ble_eq_true rfl) (fun X hE => eX8_sand (out := (r, σ2)) hE σ a1 a2 a3 a4 h)
-- IceYard$Sheet renew
abbrev mX5_renew : MD := (cX5_renew, RX5, 3, none, 2)
noncomputable def FX5_renew (o : Nat) (σ : Mem) (a1 : Int32) (a2 : Int32) : Option (Mem) :=
  nm (setI σ o 1 a1) fun σ4 =>
  nm (setI σ4 o 2 a2) fun σ5 =>
  bv (FJ7_fill_53178 (o + 4) 60 σ5 (0 : Int32)) fun σ6 =>
  some σ6
set_option maxHeartbeats 4000000 in
set_option maxRecDepth 100000 in
theorem eX5_renew {X : CX} {out : Mem} (o : Nat) (ho : shOk o) (hE : Ends X SX none out) (σ : Mem) (a1 : Int32) (a2 : Int32) (h : FX5_renew o σ a1 a2 = some out) : J X SX mX5_renew σ 0 [(0, .ref (xad X o)), (1, .int a1), (2, .int a2)] [] := by
  refine r_aload_n 0 dX5_renew_0 rfl rfl rfl ?_
  refine r_iload_n 1 dX5_renew_1 rfl rfl rfl ?_
  refine r_putI fp_RX5_15 (sx_obj ho) rfl dX5_renew_2 rfl h (fun σ4 h => ?_)
  refine r_aload_n 0 dX5_renew_5 rfl rfl rfl ?_
  refine r_iload_n 2 dX5_renew_6 rfl rfl rfl ?_
  refine r_putI fp_RX5_19 (sx_obj ho) rfl dX5_renew_7 rfl h (fun σ5 h => ?_)
  refine r_aload_n 0 dX5_renew_10 rfl rfl rfl ?_
  refine r_getR fg_RX5_11 (sx_obj ho) rfl dX5_renew_11 rfl ?_
  refine r_iconst dX5_renew_14 rfl ki_0 ?_
  obtain ⟨σ6, hc, h⟩ := bv_of h
  refine r_callS [] []  (coJ7_fill_53178 (o + 4) 60 (sx_arr ho) σ5 (0 : Int32) σ6 hc) ms_RX5_22 (by decide) rfl rfl (Nat.le_of_ble_eq_true rfl) rfl dX5_renew_15 rfl ?_
  exact r_vret rfl dX5_renew_18 h hE
theorem coX5_renew (o : Nat) (ho : shOk o) (σ : Mem) (a1 : Int32) (a2 : Int32) (σ2 : Mem) (h : FX5_renew o σ a1 a2 = some σ2) : Con SX 2 yX5_renew cX5_renew 3 none (fun ad => [.ref (ad o), .int a1, .int a2]) σ (fun _ => none) σ2 :=
  con_of (by decide +kernel) (fun _ => Nat.le_of_ble_eq_true rfl) (fun X hE => eX5_renew o ho (out := σ2) hE σ a1 a2 h)
-- IceYard sheet
abbrev mX8_sheet : MD := (cX8_sheet, RX8, 5, (some .int), 3)
noncomputable def FX8_sheet (σ : Mem) (a1 : Int32) (a2 : Int32) (a3 : Int32) : Option (Int32 × Mem) :=
  nm (setI σ 0 12 (0 : Int32)) fun σ10 =>
  bi (FX8_sheetAt σ10 a1) fun v12 σ11 =>
  sh v12 (some ((-1 : Int32), σ11)) fun o_13 =>
  bi (FX8_isLane σ11 a2) fun r15 σ14 =>
  if r15 = 0 then
  (some ((-2 : Int32), σ14))
  else
  (if a3 ≤ (60 : Int32) then
  (if 0 ≤ a3 then
  (bv (FX5_renew o_13 σ14 a2 a3) fun σ16 =>
  some ((1 : Int32), σ16))
  else
  (bi (FX8_faulty σ14 (4 : Int32)) fun r18 σ17 =>
  some (r18, σ17)))
  else
  (some ((-2 : Int32), σ14)))
set_option maxHeartbeats 4000000 in
set_option maxRecDepth 100000 in
theorem eX8_sheet {X : CX} {out : Int32 × Mem} (hE : Ends X SX (some (.int out.1)) out.2) (σ : Mem) (a1 : Int32) (a2 : Int32) (a3 : Int32) (h : FX8_sheet σ a1 a2 a3 = some out) : J X SX mX8_sheet σ 0 [(0, .ref (xad X 0)), (1, .int a1), (2, .int a2), (3, .int a3)] [] := by
  refine r_aload_n 0 dX8_sheet_0 rfl rfl rfl ?_
  refine r_iconst dX8_sheet_1 rfl ki_0 ?_
  refine r_putI fp_RX8_73 rfl rfl dX8_sheet_2 rfl h (fun σ10 h => ?_)
  refine r_aload_n 0 dX8_sheet_5 rfl rfl rfl ?_
  refine r_iload_n 1 dX8_sheet_6 rfl rfl rfl ?_
  obtain ⟨v12, σ11, hc, h⟩ := bi_of h
  rcases sh_of h with ⟨hv, h⟩ | ⟨o_13, hv, ho_13, h⟩
  · rw [hv] at hc
    refine r_callV [.int a1] [] [.null]  (coX8_sheetAt σ10 a1 none σ11 hc) mv_RX8_77 (by decide) rfl rfl rfl rfl rfl (Nat.le_of_ble_eq_true rfl) rfl dX8_sheet_7 rfl ?_
    refine r_astoreN [(4, .null), (0, .ref (xad X 0)), (1, .int a1), (2, .int a2), (3, .int a3)] dX8_sheet_10 rfl (show 4 < 5 by decide) rfl ?_
    refine r_aloadN 0 dX8_sheet_12 rfl rfl ?_
    refine r_ifnonnullN dX8_sheet_14 rfl ?_
    refine r_iconst dX8_sheet_17 rfl ki_m1 ?_
    exact r_iret rfl dX8_sheet_18 h hE
  · rw [hv] at hc
    refine r_callV [.int a1] [] [.ref (xad X o_13)]  (coX8_sheetAt σ10 a1 (some o_13) σ11 hc) mv_RX8_77 (by decide) rfl rfl rfl rfl rfl (Nat.le_of_ble_eq_true rfl) rfl dX8_sheet_7 rfl ?_
    refine r_astore [(4, .ref (xad X o_13)), (0, .ref (xad X 0)), (1, .int a1), (2, .int a2), (3, .int a3)] dX8_sheet_10 rfl (show 4 < 5 by decide) rfl ?_
    refine r_aload 0 dX8_sheet_12 rfl rfl ?_
    refine r_ifnonnull dX8_sheet_14 rfl ?_
    refine r_iload_n 3 dX8_sheet_19 rfl rfl rfl ?_
    obtain ⟨r15, σ14, hc, h⟩ := bi_of h
    refine r_callS [] [.int r15]  (coX8_isLane σ11 a2 r15 σ14 hc) ms_RX8_81 (by decide) rfl rfl (Nat.le_of_ble_eq_true rfl) rfl dX8_sheet_20 rfl ?_
    refine r_if_eq dX8_sheet_23 rfl rfl h (fun c h => ?_) (fun c h => ?_)
    · refine r_bipush dX8_sheet_32 rfl kb_m2 ?_
      exact r_iret rfl dX8_sheet_34 h hE
    · refine r_iload_n 4 dX8_sheet_26 rfl rfl rfl ?_
      refine r_bipush dX8_sheet_27 rfl kb_60 ?_
      refine r_icmp_le dX8_sheet_29 rfl rfl h (fun c h => ?_) (fun c h => ?_)
      · refine r_iload_n 4 dX8_sheet_35 rfl rfl rfl ?_
        refine r_if_ge dX8_sheet_36 rfl rfl h (fun c h => ?_) (fun c h => ?_)
        · refine r_aload 0 dX8_sheet_45 rfl rfl ?_
          refine r_iload_n 3 dX8_sheet_47 rfl rfl rfl ?_
          refine r_iload_n 4 dX8_sheet_48 rfl rfl rfl ?_
          obtain ⟨σ16, hc, h⟩ := bv_of h
          refine r_callV [.int a2, .int a3] [] []  (coX5_renew o_13 ho_13 σ14 a2 a3 σ16 hc) mv_RX8_207 (by decide) (sx_obj ho_13) rfl rfl rfl rfl (Nat.le_of_ble_eq_true rfl) rfl dX8_sheet_49 rfl ?_
          refine r_iconst dX8_sheet_52 rfl ki_1 ?_
          exact r_iret rfl dX8_sheet_53 h hE
        · refine r_aload_n 1 dX8_sheet_39 rfl rfl rfl ?_
          refine r_iconst dX8_sheet_40 rfl ki_4 ?_
          obtain ⟨r18, σ17, hc, h⟩ := bi_of h
          refine r_callV [.int (4 : Int32)] [] [.int r18]  (coX8_faulty σ14 (4 : Int32) r18 σ17 hc) mv_RX8_93 (by decide) rfl rfl rfl rfl rfl (Nat.le_of_ble_eq_true rfl) rfl dX8_sheet_41 rfl ?_
          exact r_iret rfl dX8_sheet_44 h hE
      · refine r_bipush dX8_sheet_32 rfl kb_m2 ?_
        exact r_iret rfl dX8_sheet_34 h hE
theorem coX8_sheet (σ : Mem) (a1 : Int32) (a2 : Int32) (a3 : Int32) (r : Int32) (σ2 : Mem) (h : FX8_sheet σ a1 a2 a3 = some (r, σ2)) : Con SX 3 yX8_sheet cX8_sheet 5 (some .int) (fun ad => [.ref (ad 0), .int a1, .int a2, .int a3]) σ (fun _ => some (.int r)) σ2 :=
  con_of (by decide +kernel) (fun _ => Nat.le_of_ble_eq_true rfl) (fun X hE => eX8_sheet (out := (r, σ2)) hE σ a1 a2 a3 h)
-- IceYard$Ground startOf
abbrev mX1_startOf : MD := (cX1_startOf, RX1, 2, (some .int), 2)
noncomputable def FX1_startOf (σ : Mem) (a1 : Int32) : Option (Int32 × Mem) :=
  bi (FX1_hasBlock σ a1) fun r5 σ4 =>
  if r5 = 0 then
  (some ((0 : Int32), σ4))
  else
  (rd a1 6 fun j6 =>
  some ((σ4.1 19 j6), σ4))
set_option maxHeartbeats 4000000 in
set_option maxRecDepth 100000 in
theorem eX1_startOf {X : CX} {out : Int32 × Mem} (hE : Ends X SX (some (.int out.1)) out.2) (σ : Mem) (a1 : Int32) (h : FX1_startOf σ a1 = some out) : J X SX mX1_startOf σ 0 [(0, .ref (xad X 1)), (1, .int a1)] [] := by
  refine r_aload_n 0 dX1_startOf_0 rfl rfl rfl ?_
  refine r_iload_n 1 dX1_startOf_1 rfl rfl rfl ?_
  obtain ⟨r5, σ4, hc, h⟩ := bi_of h
  refine r_callV [.int a1] [] [.int r5]  (coX1_hasBlock σ a1 r5 σ4 hc) mv_RX1_34 (by decide) rfl rfl rfl rfl rfl (Nat.le_of_ble_eq_true rfl) rfl dX1_startOf_2 rfl ?_
  refine r_if_eq dX1_startOf_5 rfl rfl h (fun c h => ?_) (fun c h => ?_)
  · refine r_iconst dX1_startOf_17 rfl ki_0 ?_
    exact r_iret rfl dX1_startOf_18 h hE
  · refine r_aload_n 0 dX1_startOf_8 rfl rfl rfl ?_
    refine r_getR fg_RX1_15 rfl rfl dX1_startOf_9 rfl ?_
    refine r_iload_n 1 dX1_startOf_12 rfl rfl rfl ?_
    refine r_iald rfl dX1_startOf_13 rfl h (fun j6 h => ?_)
    refine r_goto dX1_startOf_14 rfl ?_
    exact r_iret rfl dX1_startOf_18 h hE
theorem coX1_startOf (σ : Mem) (a1 : Int32) (r : Int32) (σ2 : Mem) (h : FX1_startOf σ a1 = some (r, σ2)) : Con SX 2 yX1_startOf cX1_startOf 2 (some .int) (fun ad => [.ref (ad 1), .int a1]) σ (fun _ => some (.int r)) σ2 :=
  con_of (by decide +kernel) (fun _ => Nat.le_of_ble_eq_true rfl) (fun X hE => eX1_startOf (out := (r, σ2)) hE σ a1 h)
-- IceYard$Ground firstYard
abbrev mX1_firstYard : MD := (cX1_firstYard, RX1, 4, (some .long), 3)
noncomputable def BX1_firstYard_4 (rl4 : Mem → Int64 → Int32 → Option (Int64 × Mem)) (σ : Mem) (x1 : Int64) (x3 : Int32) : Option (Int64 × Mem) :=
  if (σ.1 1 6) ≤ x3 then
  (some (x1, σ))
  else
  (bi (FX1_startOf σ x3) fun r7 σ6 =>
  bi (FX8_withPlace σ6 x1 x3 r7) fun r9 σ8 =>
  nm (x3 + (1 : Int32)) fun x_10 =>
  rl4 σ8 r9 x_10)
set_option maxHeartbeats 4000000 in
set_option maxRecDepth 100000 in
theorem jX1_firstYard_4 {X : CX} {out : Int64 × Mem} (hE : Ends X SX (some (.long out.1)) out.2) (rl4 : Mem → Int64 → Int32 → Option (Int64 × Mem)) (hr4 : ∀ (σ : Mem) (x1 : Int64) (x3 : Int32), rl4 σ x1 x3 = some out → J X SX mX1_firstYard σ 4 [(0, .ref (xad X 1)), (1, .long x1), (3, .int x3)] []) (σ : Mem) (x1 : Int64) (x3 : Int32) (h : BX1_firstYard_4 rl4 σ x1 x3 = some out) : J X SX mX1_firstYard σ 4 [(0, .ref (xad X 1)), (1, .long x1), (3, .int x3)] [] := by
  refine r_iload_n 2 dX1_firstYard_4 rfl rfl rfl ?_
  refine r_aload_n 0 dX1_firstYard_5 rfl rfl rfl ?_
  refine r_getI fg_RX1_31 rfl rfl dX1_firstYard_6 rfl ?_
  refine r_icmp_ge dX1_firstYard_9 rfl rfl h (fun c h => ?_) (fun c h => ?_)
  · refine r_lload_n 1 dX1_firstYard_29 rfl rfl rfl ?_
    exact r_lret rfl dX1_firstYard_30 h hE
  · refine r_lload_n 1 dX1_firstYard_12 rfl rfl rfl ?_
    refine r_iload_n 2 dX1_firstYard_13 rfl rfl rfl ?_
    refine r_aload_n 0 dX1_firstYard_14 rfl rfl rfl ?_
    refine r_iload_n 2 dX1_firstYard_15 rfl rfl rfl ?_
    obtain ⟨r7, σ6, hc, h⟩ := bi_of h
    refine r_callV [.int x3] [.int x3, .long x1] [.int r7, .int x3, .long x1]  (coX1_startOf σ x3 r7 σ6 hc) mv_RX1_94 (by decide) rfl rfl rfl rfl rfl (Nat.le_of_ble_eq_true rfl) rfl dX1_firstYard_16 rfl ?_
    obtain ⟨r9, σ8, hc, h⟩ := bi_of h
    refine r_callN [] [.long r9]  (coX8_withPlace σ6 x1 x3 r7 r9 σ8 hc) mn_RX1_97 (by decide) rfl rfl (Nat.le_of_ble_eq_true rfl) rfl dX1_firstYard_19 rfl ?_
    refine r_lstoreV_n [(1, .long r9), (0, .ref (xad X 1)), (3, .int x3)] dX1_firstYard_22 rfl rfl (show 1 + 1 < 4 by decide) rfl ?_
    refine r_iinc 2 (fun x_10 => [(3, .int x_10), (1, .long r9), (0, .ref (xad X 1))]) dX1_firstYard_23 rfl rfl ki_1 (show 3 < 4 by decide) (fun _ => rfl) h (fun x_10 h => ?_)
    refine r_goto dX1_firstYard_26 rfl ?_
    refine r_sub [2, 1, 0] rfl ?_
    exact hr4 σ8 r9 x_10 h
noncomputable def FX1_firstYard_4 (n : Nat) : Mem → Int64 → Int32 → Option (Int64 × Mem) :=
  Nat.rec (fun _ _ _ => none) (fun _ ih => BX1_firstYard_4 ih) n
theorem lX1_firstYard_4 {X : CX} {out : Int64 × Mem} (hE : Ends X SX (some (.long out.1)) out.2) : ∀ (n : Nat) (σ : Mem) (x1 : Int64) (x3 : Int32), FX1_firstYard_4 n σ x1 x3 = some out → J X SX mX1_firstYard σ 4 [(0, .ref (xad X 1)), (1, .long x1), (3, .int x3)] [] := by
  intro n
  induction n with
  | zero => intro σ x1 x3 h; exact nn h
  | succ n ih => intro σ x1 x3 h; exact jX1_firstYard_4 hE (FX1_firstYard_4 n) ih σ x1 x3 h
noncomputable def FX1_firstYard (σ : Mem) : Option (Int64 × Mem) :=
  FX1_firstYard_4 FU σ (0 : Int64) (0 : Int32)
set_option maxHeartbeats 4000000 in
set_option maxRecDepth 100000 in
theorem eX1_firstYard {X : CX} {out : Int64 × Mem} (hE : Ends X SX (some (.long out.1)) out.2) (σ : Mem) (h : FX1_firstYard σ = some out) : J X SX mX1_firstYard σ 0 [(0, .ref (xad X 1))] [] := by
  refine r_lconst dX1_firstYard_0 rfl kl_0 ?_
  refine r_lstoreV_n [(1, .long (0 : Int64)), (0, .ref (xad X 1))] dX1_firstYard_1 rfl rfl (show 1 + 1 < 4 by decide) rfl ?_
  refine r_iconst dX1_firstYard_2 rfl ki_0 ?_
  refine r_istoreV_n [(3, .int (0 : Int32)), (1, .long (0 : Int64)), (0, .ref (xad X 1))] dX1_firstYard_3 rfl rfl (show 3 < 4 by decide) rfl ?_
  refine r_sub [2, 1, 0] rfl ?_
  exact lX1_firstYard_4 hE FU σ (0 : Int64) (0 : Int32) h
theorem coX1_firstYard (σ : Mem) (r : Int64) (σ2 : Mem) (h : FX1_firstYard σ = some (r, σ2)) : Con SX 3 yX1_firstYard cX1_firstYard 4 (some .long) (fun ad => [.ref (ad 1)]) σ (fun _ => some (.long r)) σ2 :=
  con_of (by decide +kernel) (fun _ => Nat.le_of_ble_eq_true rfl) (fun X hE => eX1_firstYard (out := (r, σ2)) hE σ h)
-- IceYard$Ground layBlock
abbrev mX1_layBlock : MD := (cX1_layBlock, RX1, 3, none, 1)
noncomputable def FX1_layBlock (σ : Mem) (a1 : Int32) (a2 : Int32) : Option (Mem) :=
  if a2 < 0 then
  (some σ)
  else
  (if (6 : Int32) ≤ (σ.1 1 6) then
  (some σ)
  else
  (stI σ 18 6 (σ.1 1 6) a2 fun σ4 =>
  stI σ4 19 6 (σ4.1 1 6) a1 fun σ5 =>
  nm (setI σ5 1 6 ((σ5.1 1 6) + (1 : Int32))) fun σ6 =>
  some σ6))
set_option maxHeartbeats 4000000 in
set_option maxRecDepth 100000 in
theorem eX1_layBlock {X : CX} {out : Mem} (hE : Ends X SX none out) (σ : Mem) (a1 : Int32) (a2 : Int32) (h : FX1_layBlock σ a1 a2 = some out) : J X SX mX1_layBlock σ 0 [(0, .ref (xad X 1)), (1, .int a1), (2, .int a2)] [] := by
  refine r_iload_n 2 dX1_layBlock_0 rfl rfl rfl ?_
  refine r_if_lt dX1_layBlock_1 rfl rfl h (fun c h => ?_) (fun c h => ?_)
  · exact r_vret rfl dX1_layBlock_43 h hE
  · refine r_aload_n 0 dX1_layBlock_4 rfl rfl rfl ?_
    refine r_getI fg_RX1_31 rfl rfl dX1_layBlock_5 rfl ?_
    refine r_bipush dX1_layBlock_8 rfl kb_6 ?_
    refine r_icmp_ge dX1_layBlock_10 rfl rfl h (fun c h => ?_) (fun c h => ?_)
    · exact r_vret rfl dX1_layBlock_43 h hE
    · refine r_aload_n 0 dX1_layBlock_13 rfl rfl rfl ?_
      refine r_getR fg_RX1_9 rfl rfl dX1_layBlock_14 rfl ?_
      refine r_aload_n 0 dX1_layBlock_17 rfl rfl rfl ?_
      refine r_getI fg_RX1_31 rfl rfl dX1_layBlock_18 rfl ?_
      refine r_iload_n 2 dX1_layBlock_21 rfl rfl rfl ?_
      refine r_iast rfl dX1_layBlock_22 rfl h (fun σ4 h => ?_)
      refine r_aload_n 0 dX1_layBlock_23 rfl rfl rfl ?_
      refine r_getR fg_RX1_15 rfl rfl dX1_layBlock_24 rfl ?_
      refine r_aload_n 0 dX1_layBlock_27 rfl rfl rfl ?_
      refine r_getI fg_RX1_31 rfl rfl dX1_layBlock_28 rfl ?_
      refine r_iload_n 1 dX1_layBlock_31 rfl rfl rfl ?_
      refine r_iast rfl dX1_layBlock_32 rfl h (fun σ5 h => ?_)
      refine r_aload_n 0 dX1_layBlock_33 rfl rfl rfl ?_
      refine r_dup dX1_layBlock_34 rfl rfl ?_
      refine r_getI fg_RX1_31 rfl rfl dX1_layBlock_35 rfl ?_
      refine r_iconst dX1_layBlock_38 rfl ki_1 ?_
      refine r_iadd dX1_layBlock_39 rfl ?_
      refine r_putI fp_RX1_31 rfl rfl dX1_layBlock_40 rfl h (fun σ6 h => ?_)
      exact r_vret rfl dX1_layBlock_43 h hE
theorem coX1_layBlock (σ : Mem) (a1 : Int32) (a2 : Int32) (σ2 : Mem) (h : FX1_layBlock σ a1 a2 = some σ2) : Con SX 1 yX1_layBlock cX1_layBlock 3 none (fun ad => [.ref (ad 1), .int a1, .int a2]) σ (fun _ => none) σ2 :=
  con_of (by decide +kernel) (fun _ => Nat.le_of_ble_eq_true rfl) (fun X hE => eX1_layBlock (out := σ2) hE σ a1 a2 h)
-- IceYard$Ground layCrack
abbrev mX1_layCrack : MD := (cX1_layCrack, RX1, 2, none, 1)
noncomputable def FX1_layCrack (σ : Mem) (a1 : Int32) : Option (Mem) :=
  if (4 : Int32) ≤ (σ.1 1 7) then
  (some σ)
  else
  (stI σ 20 4 (σ.1 1 7) a1 fun σ3 =>
  nm (setI σ3 1 7 ((σ3.1 1 7) + (1 : Int32))) fun σ4 =>
  some σ4)
set_option maxHeartbeats 4000000 in
set_option maxRecDepth 100000 in
theorem eX1_layCrack {X : CX} {out : Mem} (hE : Ends X SX none out) (σ : Mem) (a1 : Int32) (h : FX1_layCrack σ a1 = some out) : J X SX mX1_layCrack σ 0 [(0, .ref (xad X 1)), (1, .int a1)] [] := by
  refine r_aload_n 0 dX1_layCrack_0 rfl rfl rfl ?_
  refine r_getI fg_RX1_44 rfl rfl dX1_layCrack_1 rfl ?_
  refine r_iconst dX1_layCrack_4 rfl ki_4 ?_
  refine r_icmp_ge dX1_layCrack_5 rfl rfl h (fun c h => ?_) (fun c h => ?_)
  · exact r_vret rfl dX1_layCrack_28 h hE
  · refine r_aload_n 0 dX1_layCrack_8 rfl rfl rfl ?_
    refine r_getR fg_RX1_18 rfl rfl dX1_layCrack_9 rfl ?_
    refine r_aload_n 0 dX1_layCrack_12 rfl rfl rfl ?_
    refine r_getI fg_RX1_44 rfl rfl dX1_layCrack_13 rfl ?_
    refine r_iload_n 1 dX1_layCrack_16 rfl rfl rfl ?_
    refine r_iast rfl dX1_layCrack_17 rfl h (fun σ3 h => ?_)
    refine r_aload_n 0 dX1_layCrack_18 rfl rfl rfl ?_
    refine r_dup dX1_layCrack_19 rfl rfl ?_
    refine r_getI fg_RX1_44 rfl rfl dX1_layCrack_20 rfl ?_
    refine r_iconst dX1_layCrack_23 rfl ki_1 ?_
    refine r_iadd dX1_layCrack_24 rfl ?_
    refine r_putI fp_RX1_44 rfl rfl dX1_layCrack_25 rfl h (fun σ4 h => ?_)
    exact r_vret rfl dX1_layCrack_28 h hE
theorem coX1_layCrack (σ : Mem) (a1 : Int32) (σ2 : Mem) (h : FX1_layCrack σ a1 = some σ2) : Con SX 1 yX1_layCrack cX1_layCrack 2 none (fun ad => [.ref (ad 1), .int a1]) σ (fun _ => none) σ2 :=
  con_of (by decide +kernel) (fun _ => Nat.le_of_ble_eq_true rfl) (fun X hE => eX1_layCrack (out := σ2) hE σ a1 h)
-- IceYard$Text kindOfSign
abbrev mX7_kindOfSign : MD := (cX7_kindOfSign, RX7, 1, (some .int), 1)
noncomputable def FX7_kindOfSign (σ : Mem) (a0 : Int32) : Option (Int32 × Mem) :=
  if a0 = (100 : Int32) then
  (some ((2 : Int32), σ))
  else
  (if a0 = (108 : Int32) then
  (some ((1 : Int32), σ))
  else
  (if a0 = (111 : Int32) then
  (some ((0 : Int32), σ))
  else
  (some ((-1 : Int32), σ))))
set_option maxHeartbeats 4000000 in
set_option maxRecDepth 100000 in
theorem eX7_kindOfSign {X : CX} {out : Int32 × Mem} (hE : Ends X SX (some (.int out.1)) out.2) (σ : Mem) (a0 : Int32) (h : FX7_kindOfSign σ a0 = some out) : J X SX mX7_kindOfSign σ 0 [(0, .int a0)] [] := by
  refine r_iload_n 0 dX7_kindOfSign_0 rfl rfl rfl ?_
  refine cpI h (fun c h => ?_) (fun n1_0 h => ?_)
  · refine r_lookup dX7_kindOfSign_1 (by decide) (by rw [c] <;> rfl) rfl ?_
    refine r_iconst dX7_kindOfSign_40 rfl ki_2 ?_
    exact r_iret rfl dX7_kindOfSign_41 h hE
  · refine cpI h (fun c h => ?_) (fun n1_1 h => ?_)
    · refine r_lookup dX7_kindOfSign_1 (by decide) (by rw [c] <;> rfl) rfl ?_
      refine r_iconst dX7_kindOfSign_38 rfl ki_1 ?_
      exact r_iret rfl dX7_kindOfSign_39 h hE
    · refine cpI h (fun c h => ?_) (fun n1_2 h => ?_)
      · refine r_lookup dX7_kindOfSign_1 (by decide) (by rw [c] <;> rfl) rfl ?_
        refine r_iconst dX7_kindOfSign_36 rfl ki_0 ?_
        exact r_iret rfl dX7_kindOfSign_37 h hE
      · refine r_lookup dX7_kindOfSign_1 (by decide) (by show Op.lookupswitch.offset [(100, 39), (108, 37), (111, 35)] (41) _ = _; rw [lv_osw n1_0 (by decide), lv_osw n1_1 (by decide), lv_osw n1_2 (by decide)] <;> rfl) rfl ?_
        refine r_iconst dX7_kindOfSign_42 rfl ki_m1 ?_
        exact r_iret rfl dX7_kindOfSign_43 h hE
theorem coX7_kindOfSign (σ : Mem) (a0 : Int32) (r : Int32) (σ2 : Mem) (h : FX7_kindOfSign σ a0 = some (r, σ2)) : Con SX 1 yX7_kindOfSign cX7_kindOfSign 1 (some .int) (fun ad => [.int a0]) σ (fun _ => some (.int r)) σ2 :=
  con_of (by decide +kernel) (fun _ => Nat.le_of_ble_eq_true rfl) (fun X hE => eX7_kindOfSign (out := (r, σ2)) hE σ a0 h)
-- IceYard$Ground layCell
abbrev mX1_layCell : MD := (cX1_layCell, RX1, 5, none, 2)
noncomputable def FX1_layCell (σ : Mem) (a1 : Int32) (a2 : Int32) : Option (Mem) :=
  nm ((1 : Int64) <<< ((a1).toInt64 &&& 63)) fun x_11 =>
  if a2 = (35 : Int32) then
  (nm (setL σ 1 8 ((σ.2 1 8) ||| x_11)) fun σ12 =>
  some σ12)
  else
  (if a2 = (97 : Int32) then
  (nm (setL σ 1 10 ((σ.2 1 10) ||| x_11)) fun σ13 =>
  some σ13)
  else
  (if a2 = (98 : Int32) then
  (nm (setL σ 1 11 ((σ.2 1 11) ||| x_11)) fun σ14 =>
  some σ14)
  else
  (if a2 = (99 : Int32) then
  (bv (FX1_layCrack σ a1) fun σ15 =>
  some σ15)
  else
  (if a2 = (115 : Int32) then
  (nm (setL σ 1 9 ((σ.2 1 9) ||| x_11)) fun σ16 =>
  some σ16)
  else
  (nm (setL σ 1 12 ((σ.2 1 12) ||| x_11)) fun σ17 =>
  bi (FX7_kindOfSign σ17 a2) fun r19 σ18 =>
  bv (FX1_layBlock σ18 a1 r19) fun σ20 =>
  some σ20)))))
set_option maxHeartbeats 4000000 in
set_option maxRecDepth 100000 in
theorem eX1_layCell {X : CX} {out : Mem} (hE : Ends X SX none out) (σ : Mem) (a1 : Int32) (a2 : Int32) (h : FX1_layCell σ a1 a2 = some out) : J X SX mX1_layCell σ 0 [(0, .ref (xad X 1)), (1, .int a1), (2, .int a2)] [] := by
  refine r_lconst dX1_layCell_0 rfl kl_1 ?_
  refine r_iload_n 1 dX1_layCell_1 rfl rfl rfl ?_
  refine r_lshl dX1_layCell_2 rfl ?_
  refine r_lstore_n (fun x_11 => [(3, .long x_11), (0, .ref (xad X 1)), (1, .int a1), (2, .int a2)]) dX1_layCell_3 rfl rfl (show 3 + 1 < 5 by decide) (fun _ => rfl) h (fun x_11 h => ?_)
  refine r_iload_n 3 dX1_layCell_4 rfl rfl rfl ?_
  refine cpI h (fun c h => ?_) (fun n5_0 h => ?_)
  · refine r_lookup dX1_layCell_5 (by decide) (by rw [c] <;> rfl) rfl ?_
    refine r_aload_n 1 dX1_layCell_56 rfl rfl rfl ?_
    refine r_dup dX1_layCell_57 rfl rfl ?_
    refine r_getL fg_RX1_47 rfl rfl dX1_layCell_58 rfl ?_
    refine r_lload_n 0 dX1_layCell_61 rfl rfl rfl ?_
    refine r_lor dX1_layCell_62 rfl ?_
    refine r_putL fp_RX1_47 rfl rfl dX1_layCell_63 rfl h (fun σ12 h => ?_)
    refine r_goto dX1_layCell_66 rfl ?_
    exact r_vret rfl dX1_layCell_135 h hE
  · refine cpI h (fun c h => ?_) (fun n5_1 h => ?_)
    · refine r_lookup dX1_layCell_5 (by decide) (by rw [c] <;> rfl) rfl ?_
      refine r_aload_n 1 dX1_layCell_82 rfl rfl rfl ?_
      refine r_dup dX1_layCell_83 rfl rfl ?_
      refine r_getL fg_RX1_54 rfl rfl dX1_layCell_84 rfl ?_
      refine r_lload_n 0 dX1_layCell_87 rfl rfl rfl ?_
      refine r_lor dX1_layCell_88 rfl ?_
      refine r_putL fp_RX1_54 rfl rfl dX1_layCell_89 rfl h (fun σ13 h => ?_)
      refine r_goto dX1_layCell_92 rfl ?_
      exact r_vret rfl dX1_layCell_135 h hE
    · refine cpI h (fun c h => ?_) (fun n5_2 h => ?_)
      · refine r_lookup dX1_layCell_5 (by decide) (by rw [c] <;> rfl) rfl ?_
        refine r_aload_n 1 dX1_layCell_95 rfl rfl rfl ?_
        refine r_dup dX1_layCell_96 rfl rfl ?_
        refine r_getL fg_RX1_57 rfl rfl dX1_layCell_97 rfl ?_
        refine r_lload_n 0 dX1_layCell_100 rfl rfl rfl ?_
        refine r_lor dX1_layCell_101 rfl ?_
        refine r_putL fp_RX1_57 rfl rfl dX1_layCell_102 rfl h (fun σ14 h => ?_)
        refine r_goto dX1_layCell_105 rfl ?_
        exact r_vret rfl dX1_layCell_135 h hE
      · refine cpI h (fun c h => ?_) (fun n5_3 h => ?_)
        · refine r_lookup dX1_layCell_5 (by decide) (by rw [c] <;> rfl) rfl ?_
          refine r_aload_n 1 dX1_layCell_108 rfl rfl rfl ?_
          refine r_iload_n 2 dX1_layCell_109 rfl rfl rfl ?_
          obtain ⟨σ15, hc, h⟩ := bv_of h
          refine r_callV [.int a1] [] []  (coX1_layCrack σ a1 σ15 hc) mv_RX1_76 (by decide) rfl rfl rfl rfl rfl (Nat.le_of_ble_eq_true rfl) rfl dX1_layCell_110 rfl ?_
          refine r_goto dX1_layCell_113 rfl ?_
          exact r_vret rfl dX1_layCell_135 h hE
        · refine cpI h (fun c h => ?_) (fun n5_4 h => ?_)
          · refine r_lookup dX1_layCell_5 (by decide) (by rw [c] <;> rfl) rfl ?_
            refine r_aload_n 1 dX1_layCell_69 rfl rfl rfl ?_
            refine r_dup dX1_layCell_70 rfl rfl ?_
            refine r_getL fg_RX1_51 rfl rfl dX1_layCell_71 rfl ?_
            refine r_lload_n 0 dX1_layCell_74 rfl rfl rfl ?_
            refine r_lor dX1_layCell_75 rfl ?_
            refine r_putL fp_RX1_51 rfl rfl dX1_layCell_76 rfl h (fun σ16 h => ?_)
            refine r_goto dX1_layCell_79 rfl ?_
            exact r_vret rfl dX1_layCell_135 h hE
          · refine r_lookup dX1_layCell_5 (by decide) (by show Op.lookupswitch.offset [(35, 51), (97, 77), (98, 90), (99, 103), (115, 64)] (111) _ = _; rw [lv_osw n5_0 (by decide), lv_osw n5_1 (by decide), lv_osw n5_2 (by decide), lv_osw n5_3 (by decide), lv_osw n5_4 (by decide)] <;> rfl) rfl ?_
            refine r_aload_n 1 dX1_layCell_116 rfl rfl rfl ?_
            refine r_dup dX1_layCell_117 rfl rfl ?_
            refine r_getL fg_RX1_60 rfl rfl dX1_layCell_118 rfl ?_
            refine r_lload_n 0 dX1_layCell_121 rfl rfl rfl ?_
            refine r_lor dX1_layCell_122 rfl ?_
            refine r_putL fp_RX1_60 rfl rfl dX1_layCell_123 rfl h (fun σ17 h => ?_)
            refine r_aload_n 1 dX1_layCell_126 rfl rfl rfl ?_
            refine r_iload_n 2 dX1_layCell_127 rfl rfl rfl ?_
            refine r_iload_n 3 dX1_layCell_128 rfl rfl rfl ?_
            obtain ⟨r19, σ18, hc, h⟩ := bi_of h
            refine r_callS [.int a1, .ref (xad X 1)] [.int r19, .int a1, .ref (xad X 1)]  (coX7_kindOfSign σ17 a2 r19 σ18 hc) ms_RX1_80 (by decide) rfl rfl (Nat.le_of_ble_eq_true rfl) rfl dX1_layCell_129 rfl ?_
            obtain ⟨σ20, hc, h⟩ := bv_of h
            refine r_callV [.int a1, .int r19] [] []  (coX1_layBlock σ18 a1 r19 σ20 hc) mv_RX1_83 (by decide) rfl rfl rfl rfl rfl (Nat.le_of_ble_eq_true rfl) rfl dX1_layCell_132 rfl ?_
            exact r_vret rfl dX1_layCell_135 h hE
theorem coX1_layCell (σ : Mem) (a1 : Int32) (a2 : Int32) (σ2 : Mem) (h : FX1_layCell σ a1 a2 = some σ2) : Con SX 2 yX1_layCell cX1_layCell 5 none (fun ad => [.ref (ad 1), .int a1, .int a2]) σ (fun _ => none) σ2 :=
  con_of (by decide +kernel) (fun _ => Nat.le_of_ble_eq_true rfl) (fun X hE => eX1_layCell (out := σ2) hE σ a1 a2 h)
-- IceYard$Ground layWay
abbrev mX1_layWay : MD := (cX1_layWay, RX1, 6, none, 2)
noncomputable def FX1_layWay (σ : Mem) (a1 : Int32) (a2 : Int32) (a3 : Int32) (a4 : Int32) : Option (Mem) :=
  nm ((a1 * (4 : Int32)) + a2) fun x_7 =>
  if x_7 < 0 then
  (some σ)
  else
  (if (144 : Int32) ≤ x_7 then
  (some σ)
  else
  (if a3 = 0 then
  (stI σ 21 144 x_7 (-1 : Int32) fun σ8 =>
  some σ8)
  else
  (bi (FX8_has σ (σ.2 1 8) a4) fun r10 σ9 =>
  if r10 = 0 then
  (stI σ9 21 144 x_7 a4 fun σ12 =>
  some σ12)
  else
  (stI σ9 21 144 x_7 (-1 : Int32) fun σ11 =>
  some σ11))))
set_option maxHeartbeats 4000000 in
set_option maxRecDepth 100000 in
theorem eX1_layWay {X : CX} {out : Mem} (hE : Ends X SX none out) (σ : Mem) (a1 : Int32) (a2 : Int32) (a3 : Int32) (a4 : Int32) (h : FX1_layWay σ a1 a2 a3 a4 = some out) : J X SX mX1_layWay σ 0 [(0, .ref (xad X 1)), (1, .int a1), (2, .int a2), (3, .int a3), (4, .int a4)] [] := by
  refine r_iload_n 1 dX1_layWay_0 rfl rfl rfl ?_
  refine r_iconst dX1_layWay_1 rfl ki_4 ?_
  refine r_imul dX1_layWay_2 rfl ?_
  refine r_iload_n 2 dX1_layWay_3 rfl rfl rfl ?_
  refine r_iadd dX1_layWay_4 rfl ?_
  refine r_istore (fun x_7 => [(5, .int x_7), (0, .ref (xad X 1)), (1, .int a1), (2, .int a2), (3, .int a3), (4, .int a4)]) dX1_layWay_5 rfl (show 5 < 6 by decide) (fun _ => rfl) h (fun x_7 h => ?_)
  refine r_iload 0 dX1_layWay_7 rfl rfl ?_
  refine r_if_lt dX1_layWay_9 rfl rfl h (fun c h => ?_) (fun c h => ?_)
  · exact r_vret rfl dX1_layWay_51 h hE
  · refine r_iload 0 dX1_layWay_12 rfl rfl ?_
    refine r_aload_n 1 dX1_layWay_14 rfl rfl rfl ?_
    refine r_getR fg_RX1_21 rfl rfl dX1_layWay_15 rfl ?_
    refine r_alen rfl (by decide) rfl dX1_layWay_18 rfl ?_
    refine r_icmp_ge dX1_layWay_19 rfl rfl h (fun c h => ?_) (fun c h => ?_)
    · exact r_vret rfl dX1_layWay_51 h hE
    · refine r_aload_n 1 dX1_layWay_22 rfl rfl rfl ?_
      refine r_getR fg_RX1_21 rfl rfl dX1_layWay_23 rfl ?_
      refine r_iload 0 dX1_layWay_26 rfl rfl ?_
      refine r_iload_n 4 dX1_layWay_28 rfl rfl rfl ?_
      refine r_if_eq dX1_layWay_29 rfl rfl h (fun c h => ?_) (fun c h => ?_)
      · refine r_iconst dX1_layWay_49 rfl ki_m1 ?_
        refine r_iast rfl dX1_layWay_50 rfl h (fun σ8 h => ?_)
        exact r_vret rfl dX1_layWay_51 h hE
      · refine r_aload_n 1 dX1_layWay_32 rfl rfl rfl ?_
        refine r_getL fg_RX1_47 rfl rfl dX1_layWay_33 rfl ?_
        refine r_iload 5 dX1_layWay_36 rfl rfl ?_
        obtain ⟨r10, σ9, hc, h⟩ := bi_of h
        refine r_callN [.int x_7, .ref (xad X 21)] [.int r10, .int x_7, .ref (xad X 21)]  (coX8_has σ (σ.2 1 8) a4 r10 σ9 hc) mn_RX1_90 (by decide) rfl rfl (Nat.le_of_ble_eq_true rfl) rfl dX1_layWay_38 rfl ?_
        refine r_if_ne dX1_layWay_41 rfl rfl h (fun c h => ?_) (fun c h => ?_)
        · refine r_iconst dX1_layWay_49 rfl ki_m1 ?_
          refine r_iast rfl dX1_layWay_50 rfl h (fun σ11 h => ?_)
          exact r_vret rfl dX1_layWay_51 h hE
        · refine r_iload 5 dX1_layWay_44 rfl rfl ?_
          refine r_goto dX1_layWay_46 rfl ?_
          refine r_iast rfl dX1_layWay_50 rfl h (fun σ12 h => ?_)
          exact r_vret rfl dX1_layWay_51 h hE
theorem coX1_layWay (σ : Mem) (a1 : Int32) (a2 : Int32) (a3 : Int32) (a4 : Int32) (σ2 : Mem) (h : FX1_layWay σ a1 a2 a3 a4 = some σ2) : Con SX 2 yX1_layWay cX1_layWay 6 none (fun ad => [.ref (ad 1), .int a1, .int a2, .int a3, .int a4]) σ (fun _ => none) σ2 :=
  con_of (by decide +kernel) (fun _ => Nat.le_of_ble_eq_true rfl) (fun X hE => eX1_layWay (out := σ2) hE σ a1 a2 a3 a4 h)
-- IceYard$Ground layWays
abbrev mX1_layWays : MD := (cX1_layWays, RX1, 4, none, 3)
noncomputable def FX1_layWays_92 (rl2 : Mem → Int32 → Option (Mem)) (rl12 : Mem → Int32 → Int32 → Option (Mem)) (σ : Mem) (x1 : Int32) (x2 : Int32) (x3 : Int32) (s0 : Int32) (s1 : Int32) (s2 : Int32) : Option (Mem) :=
  bv (FX1_layWay σ s2 s1 s0 (x3 + (σ.1 1 5))) fun σ10 =>
  if x2 ≤ 0 then
  (bv (FX1_layWay σ10 x3 (3 : Int32) (0 : Int32) (x3 - (1 : Int32))) fun σ11 =>
  nm (x2 + (1 : Int32)) fun x_12 =>
  rl12 σ11 x1 x_12)
  else
  (bv (FX1_layWay σ10 x3 (3 : Int32) (1 : Int32) (x3 - (1 : Int32))) fun σ13 =>
  nm (x2 + (1 : Int32)) fun x_14 =>
  rl12 σ13 x1 x_14)
set_option maxHeartbeats 4000000 in
set_option maxRecDepth 100000 in
theorem jX1_layWays_92 {X : CX} {out : Mem} (hE : Ends X SX none out) (rl2 : Mem → Int32 → Option (Mem)) (hr2 : ∀ (σ : Mem) (x1 : Int32), rl2 σ x1 = some out → J X SX mX1_layWays σ 2 [(0, .ref (xad X 1)), (1, .int x1)] []) (rl12 : Mem → Int32 → Int32 → Option (Mem)) (hr12 : ∀ (σ : Mem) (x1 : Int32) (x2 : Int32), rl12 σ x1 x2 = some out → J X SX mX1_layWays σ 12 [(0, .ref (xad X 1)), (1, .int x1), (2, .int x2)] []) (σ : Mem) (x1 : Int32) (x2 : Int32) (x3 : Int32) (s0 : Int32) (s1 : Int32) (s2 : Int32) (h : FX1_layWays_92 rl2 rl12 σ x1 x2 x3 s0 s1 s2 = some out) : J X SX mX1_layWays σ 92 [(0, .ref (xad X 1)), (1, .int x1), (2, .int x2), (3, .int x3)] [.int s0, .int s1, .int s2, .ref (xad X 1)] := by
  refine r_iload_n 3 dX1_layWays_92 rfl rfl rfl ?_
  refine r_aload_n 0 dX1_layWays_93 rfl rfl rfl ?_
  refine r_getI fg_RX1_28 rfl rfl dX1_layWays_94 rfl ?_
  refine r_iadd dX1_layWays_97 rfl ?_
  obtain ⟨σ10, hc, h⟩ := bv_of h
  refine r_callV [.int s2, .int s1, .int s0, .int (x3 + (σ.1 1 5))] [] []  (coX1_layWay σ s2 s1 s0 (x3 + (σ.1 1 5)) σ10 hc) mv_RX1_86 (by decide) rfl rfl rfl rfl rfl (Nat.le_of_ble_eq_true rfl) rfl dX1_layWays_98 rfl ?_
  refine r_aload_n 0 dX1_layWays_101 rfl rfl rfl ?_
  refine r_iload_n 3 dX1_layWays_102 rfl rfl rfl ?_
  refine r_iconst dX1_layWays_103 rfl ki_3 ?_
  refine r_iload_n 2 dX1_layWays_104 rfl rfl rfl ?_
  refine r_if_le dX1_layWays_105 rfl rfl h (fun c h => ?_) (fun c h => ?_)
  · refine r_iconst dX1_layWays_112 rfl ki_0 ?_
    refine r_iload_n 3 dX1_layWays_113 rfl rfl rfl ?_
    refine r_iconst dX1_layWays_114 rfl ki_1 ?_
    refine r_isub dX1_layWays_115 rfl ?_
    obtain ⟨σ11, hc, h⟩ := bv_of h
    refine r_callV [.int x3, .int (3 : Int32), .int (0 : Int32), .int (x3 - (1 : Int32))] [] []  (coX1_layWay σ10 x3 (3 : Int32) (0 : Int32) (x3 - (1 : Int32)) σ11 hc) mv_RX1_86 (by decide) rfl rfl rfl rfl rfl (Nat.le_of_ble_eq_true rfl) rfl dX1_layWays_116 rfl ?_
    refine r_iinc 2 (fun x_12 => [(2, .int x_12), (0, .ref (xad X 1)), (1, .int x1), (3, .int x3)]) dX1_layWays_119 rfl rfl ki_1 (show 2 < 4 by decide) (fun _ => rfl) h (fun x_12 h => ?_)
    refine r_goto dX1_layWays_122 rfl ?_
    refine r_sub [1, 2, 0] rfl ?_
    exact hr12 σ11 x1 x_12 h
  · refine r_iconst dX1_layWays_108 rfl ki_1 ?_
    refine r_goto dX1_layWays_109 rfl ?_
    refine r_iload_n 3 dX1_layWays_113 rfl rfl rfl ?_
    refine r_iconst dX1_layWays_114 rfl ki_1 ?_
    refine r_isub dX1_layWays_115 rfl ?_
    obtain ⟨σ13, hc, h⟩ := bv_of h
    refine r_callV [.int x3, .int (3 : Int32), .int (1 : Int32), .int (x3 - (1 : Int32))] [] []  (coX1_layWay σ10 x3 (3 : Int32) (1 : Int32) (x3 - (1 : Int32)) σ13 hc) mv_RX1_86 (by decide) rfl rfl rfl rfl rfl (Nat.le_of_ble_eq_true rfl) rfl dX1_layWays_116 rfl ?_
    refine r_iinc 2 (fun x_14 => [(2, .int x_14), (0, .ref (xad X 1)), (1, .int x1), (3, .int x3)]) dX1_layWays_119 rfl rfl ki_1 (show 2 < 4 by decide) (fun _ => rfl) h (fun x_14 h => ?_)
    refine r_goto dX1_layWays_122 rfl ?_
    refine r_sub [1, 2, 0] rfl ?_
    exact hr12 σ13 x1 x_14 h
noncomputable def FX1_layWays_68 (rl2 : Mem → Int32 → Option (Mem)) (rl12 : Mem → Int32 → Int32 → Option (Mem)) (σ : Mem) (x1 : Int32) (x2 : Int32) (x3 : Int32) (s0 : Int32) (s1 : Int32) (s2 : Int32) : Option (Mem) :=
  bv (FX1_layWay σ s2 s1 s0 (x3 + (1 : Int32))) fun σ15 =>
  if ((σ15.1 1 4) - (1 : Int32)) ≤ x1 then
  (FX1_layWays_92 rl2 rl12 σ15 x1 x2 x3 (0 : Int32) (2 : Int32) x3)
  else
  (FX1_layWays_92 rl2 rl12 σ15 x1 x2 x3 (1 : Int32) (2 : Int32) x3)
set_option maxHeartbeats 4000000 in
set_option maxRecDepth 100000 in
theorem jX1_layWays_68 {X : CX} {out : Mem} (hE : Ends X SX none out) (rl2 : Mem → Int32 → Option (Mem)) (hr2 : ∀ (σ : Mem) (x1 : Int32), rl2 σ x1 = some out → J X SX mX1_layWays σ 2 [(0, .ref (xad X 1)), (1, .int x1)] []) (rl12 : Mem → Int32 → Int32 → Option (Mem)) (hr12 : ∀ (σ : Mem) (x1 : Int32) (x2 : Int32), rl12 σ x1 x2 = some out → J X SX mX1_layWays σ 12 [(0, .ref (xad X 1)), (1, .int x1), (2, .int x2)] []) (σ : Mem) (x1 : Int32) (x2 : Int32) (x3 : Int32) (s0 : Int32) (s1 : Int32) (s2 : Int32) (h : FX1_layWays_68 rl2 rl12 σ x1 x2 x3 s0 s1 s2 = some out) : J X SX mX1_layWays σ 68 [(0, .ref (xad X 1)), (1, .int x1), (2, .int x2), (3, .int x3)] [.int s0, .int s1, .int s2, .ref (xad X 1)] := by
  refine r_iload_n 3 dX1_layWays_68 rfl rfl rfl ?_
  refine r_iconst dX1_layWays_69 rfl ki_1 ?_
  refine r_iadd dX1_layWays_70 rfl ?_
  obtain ⟨σ15, hc, h⟩ := bv_of h
  refine r_callV [.int s2, .int s1, .int s0, .int (x3 + (1 : Int32))] [] []  (coX1_layWay σ s2 s1 s0 (x3 + (1 : Int32)) σ15 hc) mv_RX1_86 (by decide) rfl rfl rfl rfl rfl (Nat.le_of_ble_eq_true rfl) rfl dX1_layWays_71 rfl ?_
  refine r_aload_n 0 dX1_layWays_74 rfl rfl rfl ?_
  refine r_iload_n 3 dX1_layWays_75 rfl rfl rfl ?_
  refine r_iconst dX1_layWays_76 rfl ki_2 ?_
  refine r_iload_n 1 dX1_layWays_77 rfl rfl rfl ?_
  refine r_aload_n 0 dX1_layWays_78 rfl rfl rfl ?_
  refine r_getI fg_RX1_24 rfl rfl dX1_layWays_79 rfl ?_
  refine r_iconst dX1_layWays_82 rfl ki_1 ?_
  refine r_isub dX1_layWays_83 rfl ?_
  refine r_icmp_ge dX1_layWays_84 rfl rfl h (fun c h => ?_) (fun c h => ?_)
  · refine r_iconst dX1_layWays_91 rfl ki_0 ?_
    exact jX1_layWays_92 hE rl2 hr2 rl12 hr12 σ15 x1 x2 x3 (0 : Int32) (2 : Int32) x3 h
  · refine r_iconst dX1_layWays_87 rfl ki_1 ?_
    refine r_goto dX1_layWays_88 rfl ?_
    exact jX1_layWays_92 hE rl2 hr2 rl12 hr12 σ15 x1 x2 x3 (1 : Int32) (2 : Int32) x3 h
noncomputable def FX1_layWays_41 (rl2 : Mem → Int32 → Option (Mem)) (rl12 : Mem → Int32 → Int32 → Option (Mem)) (σ : Mem) (x1 : Int32) (x2 : Int32) (x3 : Int32) (s0 : Int32) (s1 : Int32) (s2 : Int32) : Option (Mem) :=
  bv (FX1_layWay σ s2 s1 s0 (x3 - (σ.1 1 5))) fun σ16 =>
  if ((σ16.1 1 5) - (1 : Int32)) ≤ x2 then
  (FX1_layWays_68 rl2 rl12 σ16 x1 x2 x3 (0 : Int32) (1 : Int32) x3)
  else
  (FX1_layWays_68 rl2 rl12 σ16 x1 x2 x3 (1 : Int32) (1 : Int32) x3)
set_option maxHeartbeats 4000000 in
set_option maxRecDepth 100000 in
theorem jX1_layWays_41 {X : CX} {out : Mem} (hE : Ends X SX none out) (rl2 : Mem → Int32 → Option (Mem)) (hr2 : ∀ (σ : Mem) (x1 : Int32), rl2 σ x1 = some out → J X SX mX1_layWays σ 2 [(0, .ref (xad X 1)), (1, .int x1)] []) (rl12 : Mem → Int32 → Int32 → Option (Mem)) (hr12 : ∀ (σ : Mem) (x1 : Int32) (x2 : Int32), rl12 σ x1 x2 = some out → J X SX mX1_layWays σ 12 [(0, .ref (xad X 1)), (1, .int x1), (2, .int x2)] []) (σ : Mem) (x1 : Int32) (x2 : Int32) (x3 : Int32) (s0 : Int32) (s1 : Int32) (s2 : Int32) (h : FX1_layWays_41 rl2 rl12 σ x1 x2 x3 s0 s1 s2 = some out) : J X SX mX1_layWays σ 41 [(0, .ref (xad X 1)), (1, .int x1), (2, .int x2), (3, .int x3)] [.int s0, .int s1, .int s2, .ref (xad X 1)] := by
  refine r_iload_n 3 dX1_layWays_41 rfl rfl rfl ?_
  refine r_aload_n 0 dX1_layWays_42 rfl rfl rfl ?_
  refine r_getI fg_RX1_28 rfl rfl dX1_layWays_43 rfl ?_
  refine r_isub dX1_layWays_46 rfl ?_
  obtain ⟨σ16, hc, h⟩ := bv_of h
  refine r_callV [.int s2, .int s1, .int s0, .int (x3 - (σ.1 1 5))] [] []  (coX1_layWay σ s2 s1 s0 (x3 - (σ.1 1 5)) σ16 hc) mv_RX1_86 (by decide) rfl rfl rfl rfl rfl (Nat.le_of_ble_eq_true rfl) rfl dX1_layWays_47 rfl ?_
  refine r_aload_n 0 dX1_layWays_50 rfl rfl rfl ?_
  refine r_iload_n 3 dX1_layWays_51 rfl rfl rfl ?_
  refine r_iconst dX1_layWays_52 rfl ki_1 ?_
  refine r_iload_n 2 dX1_layWays_53 rfl rfl rfl ?_
  refine r_aload_n 0 dX1_layWays_54 rfl rfl rfl ?_
  refine r_getI fg_RX1_28 rfl rfl dX1_layWays_55 rfl ?_
  refine r_iconst dX1_layWays_58 rfl ki_1 ?_
  refine r_isub dX1_layWays_59 rfl ?_
  refine r_icmp_ge dX1_layWays_60 rfl rfl h (fun c h => ?_) (fun c h => ?_)
  · refine r_iconst dX1_layWays_67 rfl ki_0 ?_
    exact jX1_layWays_68 hE rl2 hr2 rl12 hr12 σ16 x1 x2 x3 (0 : Int32) (1 : Int32) x3 h
  · refine r_iconst dX1_layWays_63 rfl ki_1 ?_
    refine r_goto dX1_layWays_64 rfl ?_
    exact jX1_layWays_68 hE rl2 hr2 rl12 hr12 σ16 x1 x2 x3 (1 : Int32) (1 : Int32) x3 h
noncomputable def BX1_layWays_12 (rl2 : Mem → Int32 → Option (Mem)) (rl12 : Mem → Int32 → Int32 → Option (Mem)) (σ : Mem) (x1 : Int32) (x2 : Int32) : Option (Mem) :=
  if (σ.1 1 5) ≤ x2 then
  (nm (x1 + (1 : Int32)) fun x_17 =>
  rl2 σ x_17)
  else
  (nm ((x1 * (σ.1 1 5)) + x2) fun x_18 =>
  if x1 ≤ 0 then
  (FX1_layWays_41 rl2 rl12 σ x1 x2 x_18 (0 : Int32) (0 : Int32) x_18)
  else
  (FX1_layWays_41 rl2 rl12 σ x1 x2 x_18 (1 : Int32) (0 : Int32) x_18))
set_option maxHeartbeats 4000000 in
set_option maxRecDepth 100000 in
theorem jX1_layWays_12 {X : CX} {out : Mem} (hE : Ends X SX none out) (rl2 : Mem → Int32 → Option (Mem)) (hr2 : ∀ (σ : Mem) (x1 : Int32), rl2 σ x1 = some out → J X SX mX1_layWays σ 2 [(0, .ref (xad X 1)), (1, .int x1)] []) (rl12 : Mem → Int32 → Int32 → Option (Mem)) (hr12 : ∀ (σ : Mem) (x1 : Int32) (x2 : Int32), rl12 σ x1 x2 = some out → J X SX mX1_layWays σ 12 [(0, .ref (xad X 1)), (1, .int x1), (2, .int x2)] []) (σ : Mem) (x1 : Int32) (x2 : Int32) (h : BX1_layWays_12 rl2 rl12 σ x1 x2 = some out) : J X SX mX1_layWays σ 12 [(0, .ref (xad X 1)), (1, .int x1), (2, .int x2)] [] := by
  refine r_iload_n 2 dX1_layWays_12 rfl rfl rfl ?_
  refine r_aload_n 0 dX1_layWays_13 rfl rfl rfl ?_
  refine r_getI fg_RX1_28 rfl rfl dX1_layWays_14 rfl ?_
  refine r_icmp_ge dX1_layWays_17 rfl rfl h (fun c h => ?_) (fun c h => ?_)
  · refine r_iinc 1 (fun x_17 => [(1, .int x_17), (0, .ref (xad X 1)), (2, .int x2)]) dX1_layWays_125 rfl rfl ki_1 (show 1 < 4 by decide) (fun _ => rfl) h (fun x_17 h => ?_)
    refine r_goto dX1_layWays_128 rfl ?_
    refine r_sub [1, 0] rfl ?_
    exact hr2 σ x_17 h
  · refine r_iload_n 1 dX1_layWays_20 rfl rfl rfl ?_
    refine r_aload_n 0 dX1_layWays_21 rfl rfl rfl ?_
    refine r_getI fg_RX1_28 rfl rfl dX1_layWays_22 rfl ?_
    refine r_imul dX1_layWays_25 rfl ?_
    refine r_iload_n 2 dX1_layWays_26 rfl rfl rfl ?_
    refine r_iadd dX1_layWays_27 rfl ?_
    refine r_istore_n (fun x_18 => [(3, .int x_18), (0, .ref (xad X 1)), (1, .int x1), (2, .int x2)]) dX1_layWays_28 rfl rfl (show 3 < 4 by decide) (fun _ => rfl) h (fun x_18 h => ?_)
    refine r_aload_n 1 dX1_layWays_29 rfl rfl rfl ?_
    refine r_iload_n 0 dX1_layWays_30 rfl rfl rfl ?_
    refine r_iconst dX1_layWays_31 rfl ki_0 ?_
    refine r_iload_n 2 dX1_layWays_32 rfl rfl rfl ?_
    refine r_if_le dX1_layWays_33 rfl rfl h (fun c h => ?_) (fun c h => ?_)
    · refine r_iconst dX1_layWays_40 rfl ki_0 ?_
      refine r_sub [1, 2, 3, 0] rfl ?_
      exact jX1_layWays_41 hE rl2 hr2 rl12 hr12 σ x1 x2 x_18 (0 : Int32) (0 : Int32) x_18 h
    · refine r_iconst dX1_layWays_36 rfl ki_1 ?_
      refine r_goto dX1_layWays_37 rfl ?_
      refine r_sub [1, 2, 3, 0] rfl ?_
      exact jX1_layWays_41 hE rl2 hr2 rl12 hr12 σ x1 x2 x_18 (1 : Int32) (0 : Int32) x_18 h
noncomputable def FX1_layWays_12 (rl2 : Mem → Int32 → Option (Mem)) (n : Nat) : Mem → Int32 → Int32 → Option (Mem) :=
  Nat.rec (fun _ _ _ => none) (fun _ ih => BX1_layWays_12 rl2 ih) n
theorem lX1_layWays_12 {X : CX} {out : Mem} (hE : Ends X SX none out) (rl2 : Mem → Int32 → Option (Mem)) (hr2 : ∀ (σ : Mem) (x1 : Int32), rl2 σ x1 = some out → J X SX mX1_layWays σ 2 [(0, .ref (xad X 1)), (1, .int x1)] []) : ∀ (n : Nat) (σ : Mem) (x1 : Int32) (x2 : Int32), FX1_layWays_12 rl2 n σ x1 x2 = some out → J X SX mX1_layWays σ 12 [(0, .ref (xad X 1)), (1, .int x1), (2, .int x2)] [] := by
  intro n
  induction n with
  | zero => intro σ x1 x2 h; exact nn h
  | succ n ih => intro σ x1 x2 h; exact jX1_layWays_12 hE rl2 hr2 (FX1_layWays_12 rl2 n) ih σ x1 x2 h
noncomputable def BX1_layWays_2 (rl2 : Mem → Int32 → Option (Mem)) (σ : Mem) (x1 : Int32) : Option (Mem) :=
  if (σ.1 1 4) ≤ x1 then
  (some σ)
  else
  (FX1_layWays_12 rl2 FU σ x1 (0 : Int32))
set_option maxHeartbeats 4000000 in
set_option maxRecDepth 100000 in
theorem jX1_layWays_2 {X : CX} {out : Mem} (hE : Ends X SX none out) (rl2 : Mem → Int32 → Option (Mem)) (hr2 : ∀ (σ : Mem) (x1 : Int32), rl2 σ x1 = some out → J X SX mX1_layWays σ 2 [(0, .ref (xad X 1)), (1, .int x1)] []) (σ : Mem) (x1 : Int32) (h : BX1_layWays_2 rl2 σ x1 = some out) : J X SX mX1_layWays σ 2 [(0, .ref (xad X 1)), (1, .int x1)] [] := by
  refine r_iload_n 1 dX1_layWays_2 rfl rfl rfl ?_
  refine r_aload_n 0 dX1_layWays_3 rfl rfl rfl ?_
  refine r_getI fg_RX1_24 rfl rfl dX1_layWays_4 rfl ?_
  refine r_icmp_ge dX1_layWays_7 rfl rfl h (fun c h => ?_) (fun c h => ?_)
  · exact r_vret rfl dX1_layWays_131 h hE
  · refine r_iconst dX1_layWays_10 rfl ki_0 ?_
    refine r_istoreV_n [(2, .int (0 : Int32)), (0, .ref (xad X 1)), (1, .int x1)] dX1_layWays_11 rfl rfl (show 2 < 4 by decide) rfl ?_
    refine r_sub [1, 2, 0] rfl ?_
    exact lX1_layWays_12 hE rl2 hr2 FU σ x1 (0 : Int32) h
noncomputable def FX1_layWays_2 (n : Nat) : Mem → Int32 → Option (Mem) :=
  Nat.rec (fun _ _ => none) (fun _ ih => BX1_layWays_2 ih) n
theorem lX1_layWays_2 {X : CX} {out : Mem} (hE : Ends X SX none out) : ∀ (n : Nat) (σ : Mem) (x1 : Int32), FX1_layWays_2 n σ x1 = some out → J X SX mX1_layWays σ 2 [(0, .ref (xad X 1)), (1, .int x1)] [] := by
  intro n
  induction n with
  | zero => intro σ x1 h; exact nn h
  | succ n ih => intro σ x1 h; exact jX1_layWays_2 hE (FX1_layWays_2 n) ih σ x1 h
noncomputable def FX1_layWays (σ : Mem) : Option (Mem) :=
  FX1_layWays_2 FU σ (0 : Int32)
set_option maxHeartbeats 4000000 in
set_option maxRecDepth 100000 in
theorem eX1_layWays {X : CX} {out : Mem} (hE : Ends X SX none out) (σ : Mem) (h : FX1_layWays σ = some out) : J X SX mX1_layWays σ 0 [(0, .ref (xad X 1))] [] := by
  refine r_iconst dX1_layWays_0 rfl ki_0 ?_
  refine r_istoreV_n [(1, .int (0 : Int32)), (0, .ref (xad X 1))] dX1_layWays_1 rfl rfl (show 1 < 4 by decide) rfl ?_
  refine r_sub [1, 0] rfl ?_
  exact lX1_layWays_2 hE FU σ (0 : Int32) h
theorem coX1_layWays (σ : Mem) (σ2 : Mem) (h : FX1_layWays σ = some σ2) : Con SX 3 yX1_layWays cX1_layWays 4 none (fun ad => [.ref (ad 1)]) σ (fun _ => none) σ2 :=
  con_of (by decide +kernel) (fun _ => Nat.le_of_ble_eq_true rfl) (fun X hE => eX1_layWays (out := σ2) hE σ h)
-- IceYard$Sheet read
abbrev mX5_read : MD := (cX5_read, RX5, 2, (some .int), 2)
noncomputable def FX5_read (o : Nat) (σ : Mem) (a1 : Int32) : Option (Int32 × Mem) :=
  bi (FX5_hasCell o σ a1) fun r5 σ4 =>
  if r5 = 0 then
  (some ((0 : Int32), σ4))
  else
  (rd a1 60 fun j6 =>
  some ((σ4.1 (o + 4) j6), σ4))
set_option maxHeartbeats 4000000 in
set_option maxRecDepth 100000 in
theorem eX5_read {X : CX} {out : Int32 × Mem} (o : Nat) (ho : shOk o) (hE : Ends X SX (some (.int out.1)) out.2) (σ : Mem) (a1 : Int32) (h : FX5_read o σ a1 = some out) : J X SX mX5_read σ 0 [(0, .ref (xad X o)), (1, .int a1)] [] := by
  refine r_aload_n 0 dX5_read_0 rfl rfl rfl ?_
  refine r_iload_n 1 dX5_read_1 rfl rfl rfl ?_
  obtain ⟨r5, σ4, hc, h⟩ := bi_of h
  refine r_callV [.int a1] [] [.int r5]  (coX5_hasCell o ho σ a1 r5 σ4 hc) mv_RX5_32 (by decide) (sx_obj ho) rfl rfl rfl rfl (Nat.le_of_ble_eq_true rfl) rfl dX5_read_2 rfl ?_
  refine r_if_eq dX5_read_5 rfl rfl h (fun c h => ?_) (fun c h => ?_)
  · refine r_iconst dX5_read_17 rfl ki_0 ?_
    exact r_iret rfl dX5_read_18 h hE
  · refine r_aload_n 0 dX5_read_8 rfl rfl rfl ?_
    refine r_getR fg_RX5_11 (sx_obj ho) rfl dX5_read_9 rfl ?_
    refine r_iload_n 1 dX5_read_12 rfl rfl rfl ?_
    refine r_iald (sx_arr ho) dX5_read_13 rfl h (fun j6 h => ?_)
    refine r_goto dX5_read_14 rfl ?_
    exact r_iret rfl dX5_read_18 h hE
theorem coX5_read (o : Nat) (ho : shOk o) (σ : Mem) (a1 : Int32) (r : Int32) (σ2 : Mem) (h : FX5_read o σ a1 = some (r, σ2)) : Con SX 2 yX5_read cX5_read 2 (some .int) (fun ad => [.ref (ad o), .int a1]) σ (fun _ => some (.int r)) σ2 :=
  con_of (by decide +kernel) (fun _ => Nat.le_of_ble_eq_true rfl) (fun X hE => eX5_read o ho (out := (r, σ2)) hE σ a1 h)
-- IceYard$Text opensRow
abbrev mX7_opensRow : MD := (cX7_opensRow, RX7, 2, (some .boolean), 1)
noncomputable def FX7_opensRow (σ : Mem) (a0 : Int32) (a1 : Int32) : Option (Int32 × Mem) :=
  if a1 < 0 then
  (rz (0 : Int32) σ)
  else
  (dzI (a1 + (1 : Int32)) <|
  if ((a0 - (3 : Int32)) - (a0 - (3 : Int32)) / (a1 + (1 : Int32)) * (a1 + (1 : Int32))) = 0 then
  (rz (1 : Int32) σ)
  else
  (rz (0 : Int32) σ))
set_option maxHeartbeats 4000000 in
set_option maxRecDepth 100000 in
theorem eX7_opensRow {X : CX} {out : Int32 × Mem} (hE : Ends X SX (some (.int out.1)) out.2) (σ : Mem) (a0 : Int32) (a1 : Int32) (h : FX7_opensRow σ a0 a1 = some out) : J X SX mX7_opensRow σ 0 [(0, .int a0), (1, .int a1)] [] := by
  refine r_iload_n 1 dX7_opensRow_0 rfl rfl rfl ?_
  refine r_if_lt dX7_opensRow_1 rfl rfl h (fun c h => ?_) (fun c h => ?_)
  · refine r_iconst dX7_opensRow_18 rfl ki_0 ?_
    exact r_zret rfl dX7_opensRow_19 h hE
  · refine r_iload_n 0 dX7_opensRow_4 rfl rfl rfl ?_
    refine r_iconst dX7_opensRow_5 rfl ki_3 ?_
    refine r_isub dX7_opensRow_6 rfl ?_
    refine r_iload_n 1 dX7_opensRow_7 rfl rfl rfl ?_
    refine r_iconst dX7_opensRow_8 rfl ki_1 ?_
    refine r_iadd dX7_opensRow_9 rfl ?_
    refine r_irem dX7_opensRow_10 rfl h (fun h => ?_)
    refine r_if_ne dX7_opensRow_11 rfl rfl h (fun c h => ?_) (fun c h => ?_)
    · refine r_iconst dX7_opensRow_18 rfl ki_0 ?_
      exact r_zret rfl dX7_opensRow_19 h hE
    · refine r_iconst dX7_opensRow_14 rfl ki_1 ?_
      refine r_goto dX7_opensRow_15 rfl ?_
      exact r_zret rfl dX7_opensRow_19 h hE
theorem coX7_opensRow (σ : Mem) (a0 : Int32) (a1 : Int32) (r : Int32) (σ2 : Mem) (h : FX7_opensRow σ a0 a1 = some (r, σ2)) : Con SX 1 yX7_opensRow cX7_opensRow 2 (some .boolean) (fun ad => [.int a0, .int a1]) σ (fun _ => some (.int r)) σ2 :=
  con_of (by decide +kernel) (fun _ => Nat.le_of_ble_eq_true rfl) (fun X hE => eX7_opensRow (out := (r, σ2)) hE σ a0 a1 h)
-- IceYard$Ground lay
abbrev mX1_lay : MD := (cX1_lay, RX1, 6, none, 4)
noncomputable def BX1_lay_69 (o : Nat) (rl69 : Mem → Int32 → Int32 → Int32 → Int32 → Option (Mem)) (σ : Mem) (x2 : Int32) (x3 : Int32) (x4 : Int32) (x5 : Int32) : Option (Mem) :=
  if x3 ≤ x5 then
  (bv (FX1_layWays σ) fun σ23 =>
  some σ23)
  else
  (bi (FX7_opensRow σ x5 (σ.1 1 5)) fun r25 σ24 =>
  if r25 = 0 then
  (bi (FX5_read o σ24 (x2 + x5)) fun r28 σ27 =>
  bv (FX1_layCell σ27 x4 r28) fun σ29 =>
  nm (x4 + (1 : Int32)) fun x_30 =>
  nm (x5 + (1 : Int32)) fun x_31 =>
  rl69 σ29 x2 x3 x_30 x_31)
  else
  (nm (x5 + (1 : Int32)) fun x_26 =>
  rl69 σ24 x2 x3 x4 x_26))
set_option maxHeartbeats 4000000 in
set_option maxRecDepth 100000 in
theorem jX1_lay_69 {X : CX} {out : Mem} (o : Nat) (ho : shOk o) (hE : Ends X SX none out) (rl69 : Mem → Int32 → Int32 → Int32 → Int32 → Option (Mem)) (hr69 : ∀ (σ : Mem) (x2 : Int32) (x3 : Int32) (x4 : Int32) (x5 : Int32), rl69 σ x2 x3 x4 x5 = some out → J X SX mX1_lay σ 69 [(0, .ref (xad X 1)), (1, .ref (xad X o)), (2, .int x2), (3, .int x3), (4, .int x4), (5, .int x5)] []) (σ : Mem) (x2 : Int32) (x3 : Int32) (x4 : Int32) (x5 : Int32) (h : BX1_lay_69 o rl69 σ x2 x3 x4 x5 = some out) : J X SX mX1_lay σ 69 [(0, .ref (xad X 1)), (1, .ref (xad X o)), (2, .int x2), (3, .int x3), (4, .int x4), (5, .int x5)] [] := by
  refine r_iload 5 dX1_lay_69 rfl rfl ?_
  refine r_iload_n 3 dX1_lay_71 rfl rfl rfl ?_
  refine r_icmp_ge dX1_lay_72 rfl rfl h (fun c h => ?_) (fun c h => ?_)
  · refine r_aload_n 0 dX1_lay_110 rfl rfl rfl ?_
    obtain ⟨σ23, hc, h⟩ := bv_of h
    refine r_callV [] [] []  (coX1_layWays σ σ23 hc) mv_RX1_73 (by decide) rfl rfl rfl rfl rfl (Nat.le_of_ble_eq_true rfl) rfl dX1_lay_111 rfl ?_
    exact r_vret rfl dX1_lay_114 h hE
  · refine r_iload 5 dX1_lay_75 rfl rfl ?_
    refine r_aload_n 0 dX1_lay_77 rfl rfl rfl ?_
    refine r_getI fg_RX1_28 rfl rfl dX1_lay_78 rfl ?_
    obtain ⟨r25, σ24, hc, h⟩ := bi_of h
    refine r_callS [] [.int r25]  (coX7_opensRow σ x5 (σ.1 1 5) r25 σ24 hc) ms_RX1_65 (by decide) rfl rfl (Nat.le_of_ble_eq_true rfl) rfl dX1_lay_81 rfl ?_
    refine r_if_ne dX1_lay_84 rfl rfl h (fun c h => ?_) (fun c h => ?_)
    · refine r_iinc 5 (fun x_26 => [(5, .int x_26), (0, .ref (xad X 1)), (1, .ref (xad X o)), (2, .int x2), (3, .int x3), (4, .int x4)]) dX1_lay_104 rfl rfl ki_1 (show 5 < 6 by decide) (fun _ => rfl) h (fun x_26 h => ?_)
      refine r_goto dX1_lay_107 rfl ?_
      refine r_sub [1, 2, 3, 4, 5, 0] rfl ?_
      exact hr69 σ24 x2 x3 x4 x_26 h
    · refine r_aload_n 0 dX1_lay_87 rfl rfl rfl ?_
      refine r_iload 4 dX1_lay_88 rfl rfl ?_
      refine r_aload_n 1 dX1_lay_90 rfl rfl rfl ?_
      refine r_iload_n 2 dX1_lay_91 rfl rfl rfl ?_
      refine r_iload 5 dX1_lay_92 rfl rfl ?_
      refine r_iadd dX1_lay_94 rfl ?_
      obtain ⟨r28, σ27, hc, h⟩ := bi_of h
      refine r_callV [.int (x2 + x5)] [.int x4, .ref (xad X 1)] [.int r28, .int x4, .ref (xad X 1)]  (coX5_read o ho σ24 (x2 + x5) r28 σ27 hc) mv_RX1_38 (by decide) (sx_obj ho) rfl rfl rfl rfl (Nat.le_of_ble_eq_true rfl) rfl dX1_lay_95 rfl ?_
      obtain ⟨σ29, hc, h⟩ := bv_of h
      refine r_callV [.int x4, .int r28] [] []  (coX1_layCell σ27 x4 r28 σ29 hc) mv_RX1_69 (by decide) rfl rfl rfl rfl rfl (Nat.le_of_ble_eq_true rfl) rfl dX1_lay_98 rfl ?_
      refine r_iinc 4 (fun x_30 => [(4, .int x_30), (0, .ref (xad X 1)), (1, .ref (xad X o)), (2, .int x2), (3, .int x3), (5, .int x5)]) dX1_lay_101 rfl rfl ki_1 (show 4 < 6 by decide) (fun _ => rfl) h (fun x_30 h => ?_)
      refine r_iinc 5 (fun x_31 => [(5, .int x_31), (4, .int x_30), (0, .ref (xad X 1)), (1, .ref (xad X o)), (2, .int x2), (3, .int x3)]) dX1_lay_104 rfl rfl ki_1 (show 5 < 6 by decide) (fun _ => rfl) h (fun x_31 h => ?_)
      refine r_goto dX1_lay_107 rfl ?_
      refine r_sub [2, 3, 4, 5, 1, 0] rfl ?_
      exact hr69 σ29 x2 x3 x_30 x_31 h
noncomputable def FX1_lay_69 (o : Nat) (n : Nat) : Mem → Int32 → Int32 → Int32 → Int32 → Option (Mem) :=
  Nat.rec (fun _ _ _ _ _ => none) (fun _ ih => BX1_lay_69 o ih) n
theorem lX1_lay_69 {X : CX} {out : Mem} (o : Nat) (ho : shOk o) (hE : Ends X SX none out) : ∀ (n : Nat) (σ : Mem) (x2 : Int32) (x3 : Int32) (x4 : Int32) (x5 : Int32), FX1_lay_69 o n σ x2 x3 x4 x5 = some out → J X SX mX1_lay σ 69 [(0, .ref (xad X 1)), (1, .ref (xad X o)), (2, .int x2), (3, .int x3), (4, .int x4), (5, .int x5)] [] := by
  intro n
  induction n with
  | zero => intro σ x2 x3 x4 x5 h; exact nn h
  | succ n ih => intro σ x2 x3 x4 x5 h; exact jX1_lay_69 o ho hE (FX1_lay_69 o n) ih σ x2 x3 x4 x5 h
noncomputable def FX1_lay (o : Nat) (σ : Mem) (a2 : Int32) (a3 : Int32) : Option (Mem) :=
  bi (FX5_read o σ (a2 + (1 : Int32))) fun r33 σ32 =>
  nm (setI σ32 1 4 (r33 - (48 : Int32))) fun σ34 =>
  bi (FX5_read o σ34 (a2 + (2 : Int32))) fun r36 σ35 =>
  nm (setI σ35 1 5 (r36 - (48 : Int32))) fun σ37 =>
  nm (setI σ37 1 6 (0 : Int32)) fun σ38 =>
  nm (setI σ38 1 7 (0 : Int32)) fun σ39 =>
  nm (setL σ39 1 8 (0 : Int64)) fun σ40 =>
  nm (setL σ40 1 9 (0 : Int64)) fun σ41 =>
  nm (setL σ41 1 10 (0 : Int64)) fun σ42 =>
  nm (setL σ42 1 11 (0 : Int64)) fun σ43 =>
  nm (setL σ43 1 12 (0 : Int64)) fun σ44 =>
  FX1_lay_69 o FU σ44 a2 a3 (0 : Int32) (3 : Int32)
set_option maxHeartbeats 4000000 in
set_option maxRecDepth 100000 in
theorem eX1_lay {X : CX} {out : Mem} (o : Nat) (ho : shOk o) (hE : Ends X SX none out) (σ : Mem) (a2 : Int32) (a3 : Int32) (h : FX1_lay o σ a2 a3 = some out) : J X SX mX1_lay σ 0 [(0, .ref (xad X 1)), (1, .ref (xad X o)), (2, .int a2), (3, .int a3)] [] := by
  refine r_aload_n 0 dX1_lay_0 rfl rfl rfl ?_
  refine r_aload_n 1 dX1_lay_1 rfl rfl rfl ?_
  refine r_iload_n 2 dX1_lay_2 rfl rfl rfl ?_
  refine r_iconst dX1_lay_3 rfl ki_1 ?_
  refine r_iadd dX1_lay_4 rfl ?_
  obtain ⟨r33, σ32, hc, h⟩ := bi_of h
  refine r_callV [.int (a2 + (1 : Int32))] [.ref (xad X 1)] [.int r33, .ref (xad X 1)]  (coX5_read o ho σ (a2 + (1 : Int32)) r33 σ32 hc) mv_RX1_38 (by decide) (sx_obj ho) rfl rfl rfl rfl (Nat.le_of_ble_eq_true rfl) rfl dX1_lay_5 rfl ?_
  refine r_bipush dX1_lay_8 rfl kb_48 ?_
  refine r_isub dX1_lay_10 rfl ?_
  refine r_putI fp_RX1_24 rfl rfl dX1_lay_11 rfl h (fun σ34 h => ?_)
  refine r_aload_n 0 dX1_lay_14 rfl rfl rfl ?_
  refine r_aload_n 1 dX1_lay_15 rfl rfl rfl ?_
  refine r_iload_n 2 dX1_lay_16 rfl rfl rfl ?_
  refine r_iconst dX1_lay_17 rfl ki_2 ?_
  refine r_iadd dX1_lay_18 rfl ?_
  obtain ⟨r36, σ35, hc, h⟩ := bi_of h
  refine r_callV [.int (a2 + (2 : Int32))] [.ref (xad X 1)] [.int r36, .ref (xad X 1)]  (coX5_read o ho σ34 (a2 + (2 : Int32)) r36 σ35 hc) mv_RX1_38 (by decide) (sx_obj ho) rfl rfl rfl rfl (Nat.le_of_ble_eq_true rfl) rfl dX1_lay_19 rfl ?_
  refine r_bipush dX1_lay_22 rfl kb_48 ?_
  refine r_isub dX1_lay_24 rfl ?_
  refine r_putI fp_RX1_28 rfl rfl dX1_lay_25 rfl h (fun σ37 h => ?_)
  refine r_aload_n 0 dX1_lay_28 rfl rfl rfl ?_
  refine r_iconst dX1_lay_29 rfl ki_0 ?_
  refine r_putI fp_RX1_31 rfl rfl dX1_lay_30 rfl h (fun σ38 h => ?_)
  refine r_aload_n 0 dX1_lay_33 rfl rfl rfl ?_
  refine r_iconst dX1_lay_34 rfl ki_0 ?_
  refine r_putI fp_RX1_44 rfl rfl dX1_lay_35 rfl h (fun σ39 h => ?_)
  refine r_aload_n 0 dX1_lay_38 rfl rfl rfl ?_
  refine r_lconst dX1_lay_39 rfl kl_0 ?_
  refine r_putL fp_RX1_47 rfl rfl dX1_lay_40 rfl h (fun σ40 h => ?_)
  refine r_aload_n 0 dX1_lay_43 rfl rfl rfl ?_
  refine r_lconst dX1_lay_44 rfl kl_0 ?_
  refine r_putL fp_RX1_51 rfl rfl dX1_lay_45 rfl h (fun σ41 h => ?_)
  refine r_aload_n 0 dX1_lay_48 rfl rfl rfl ?_
  refine r_lconst dX1_lay_49 rfl kl_0 ?_
  refine r_putL fp_RX1_54 rfl rfl dX1_lay_50 rfl h (fun σ42 h => ?_)
  refine r_aload_n 0 dX1_lay_53 rfl rfl rfl ?_
  refine r_lconst dX1_lay_54 rfl kl_0 ?_
  refine r_putL fp_RX1_57 rfl rfl dX1_lay_55 rfl h (fun σ43 h => ?_)
  refine r_aload_n 0 dX1_lay_58 rfl rfl rfl ?_
  refine r_lconst dX1_lay_59 rfl kl_0 ?_
  refine r_putL fp_RX1_60 rfl rfl dX1_lay_60 rfl h (fun σ44 h => ?_)
  refine r_iconst dX1_lay_63 rfl ki_0 ?_
  refine r_istoreV [(4, .int (0 : Int32)), (0, .ref (xad X 1)), (1, .ref (xad X o)), (2, .int a2), (3, .int a3)] dX1_lay_64 rfl (show 4 < 6 by decide) rfl ?_
  refine r_iconst dX1_lay_66 rfl ki_3 ?_
  refine r_istoreV [(5, .int (3 : Int32)), (4, .int (0 : Int32)), (0, .ref (xad X 1)), (1, .ref (xad X o)), (2, .int a2), (3, .int a3)] dX1_lay_67 rfl (show 5 < 6 by decide) rfl ?_
  refine r_sub [2, 3, 4, 5, 1, 0] rfl ?_
  exact lX1_lay_69 o ho hE FU σ44 a2 a3 (0 : Int32) (3 : Int32) h
theorem coX1_lay (o : Nat) (ho : shOk o) (σ : Mem) (a2 : Int32) (a3 : Int32) (σ2 : Mem) (h : FX1_lay o σ a2 a3 = some σ2) : Con SX 4 yX1_lay cX1_lay 6 none (fun ad => [.ref (ad 1), .ref (ad o), .int a2, .int a3]) σ (fun _ => none) σ2 :=
  con_of (by decide +kernel) (fun _ => Nat.le_of_ble_eq_true rfl) (fun X hE => eX1_lay o ho (out := σ2) hE σ a2 a3 h)
-- IceYard$Slider forget
abbrev mX6_forget : MD := (cX6_forget, RX6, 1, none, 1)
noncomputable def FX6_forget (σ : Mem) : Option (Mem) :=
  nm (setL σ 2 2 (-1 : Int64)) fun σ2 =>
  some σ2
set_option maxHeartbeats 4000000 in
set_option maxRecDepth 100000 in
theorem eX6_forget {X : CX} {out : Mem} (hE : Ends X SX none out) (σ : Mem) (h : FX6_forget σ = some out) : J X SX mX6_forget σ 0 [(0, .ref (xad X 2))] [] := by
  refine r_aload_n 0 dX6_forget_0 rfl rfl rfl ?_
  refine r_ldc2 dX6_forget_1 rfl cl_RX6_15 ?_
  refine r_putL fp_RX6_17 rfl rfl dX6_forget_4 rfl h (fun σ2 h => ?_)
  exact r_vret rfl dX6_forget_7 h hE
theorem coX6_forget (σ : Mem) (σ2 : Mem) (h : FX6_forget σ = some σ2) : Con SX 1 yX6_forget cX6_forget 1 none (fun ad => [.ref (ad 2)]) σ (fun _ => none) σ2 :=
  con_of (by decide +kernel) (fun _ => Nat.le_of_ble_eq_true rfl) (fun X hE => eX6_forget (out := σ2) hE σ h)
-- IceYard takeYard
abbrev mX8_takeYard : MD := (cX8_takeYard, RX8, 4, none, 5)
noncomputable def FX8_takeYard (o : Nat) (σ : Mem) (a2 : Int32) (a3 : Int32) : Option (Mem) :=
  bv (FX1_lay o σ a2 a3) fun σ8 =>
  bv (FX6_forget σ8) fun σ9 =>
  bi (FX1_firstYard σ9) fun r11 σ10 =>
  nm (setL σ10 0 9 r11) fun σ12 =>
  nm (setI σ12 0 10 (0 : Int32)) fun σ13 =>
  bv (FJ7_fill_d0a16 17 3 σ13 (-1 : Int64)) fun σ14 =>
  some σ14
set_option maxHeartbeats 4000000 in
set_option maxRecDepth 100000 in
theorem eX8_takeYard {X : CX} {out : Mem} (o : Nat) (ho : shOk o) (hE : Ends X SX none out) (σ : Mem) (a2 : Int32) (a3 : Int32) (h : FX8_takeYard o σ a2 a3 = some out) : J X SX mX8_takeYard σ 0 [(0, .ref (xad X 0)), (1, .ref (xad X o)), (2, .int a2), (3, .int a3)] [] := by
  refine r_aload_n 0 dX8_takeYard_0 rfl rfl rfl ?_
  refine r_getR fg_RX8_14 rfl rfl dX8_takeYard_1 rfl ?_
  refine r_aload_n 1 dX8_takeYard_4 rfl rfl rfl ?_
  refine r_iload_n 2 dX8_takeYard_5 rfl rfl rfl ?_
  refine r_iload_n 3 dX8_takeYard_6 rfl rfl rfl ?_
  obtain ⟨σ8, hc, h⟩ := bv_of h
  refine r_callV [.ref (xad X o), .int a2, .int a3] [] []  (coX1_lay o ho σ a2 a3 σ8 hc) mv_RX8_109 (by decide) rfl rfl rfl rfl rfl (Nat.le_of_ble_eq_true rfl) rfl dX8_takeYard_7 rfl ?_
  refine r_aload_n 0 dX8_takeYard_10 rfl rfl rfl ?_
  refine r_getR fg_RX8_23 rfl rfl dX8_takeYard_11 rfl ?_
  obtain ⟨σ9, hc, h⟩ := bv_of h
  refine r_callV [] [] []  (coX6_forget σ8 σ9 hc) mv_RX8_112 (by decide) rfl rfl rfl rfl rfl (Nat.le_of_ble_eq_true rfl) rfl dX8_takeYard_14 rfl ?_
  refine r_aload_n 0 dX8_takeYard_17 rfl rfl rfl ?_
  refine r_aload_n 0 dX8_takeYard_18 rfl rfl rfl ?_
  refine r_getR fg_RX8_14 rfl rfl dX8_takeYard_19 rfl ?_
  obtain ⟨r11, σ10, hc, h⟩ := bi_of h
  refine r_callV [] [.ref (xad X 0)] [.long r11, .ref (xad X 0)]  (coX1_firstYard σ9 r11 σ10 hc) mv_RX8_115 (by decide) rfl rfl rfl rfl rfl (Nat.le_of_ble_eq_true rfl) rfl dX8_takeYard_22 rfl ?_
  refine r_putL fp_RX8_119 rfl rfl dX8_takeYard_25 rfl h (fun σ12 h => ?_)
  refine r_aload_n 0 dX8_takeYard_28 rfl rfl rfl ?_
  refine r_iconst dX8_takeYard_29 rfl ki_0 ?_
  refine r_putI fp_RX8_123 rfl rfl dX8_takeYard_30 rfl h (fun σ13 h => ?_)
  refine r_aload_n 0 dX8_takeYard_33 rfl rfl rfl ?_
  refine r_getR fg_RX8_70 rfl rfl dX8_takeYard_34 rfl ?_
  refine r_ldc2 dX8_takeYard_37 rfl cl_RX8_68 ?_
  obtain ⟨σ14, hc, h⟩ := bv_of h
  refine r_callS [] []  (coJ7_fill_d0a16 17 3 rfl σ13 (-1 : Int64) σ14 hc) ms_RX8_126 (by decide) rfl rfl (Nat.le_of_ble_eq_true rfl) rfl dX8_takeYard_40 rfl ?_
  exact r_vret rfl dX8_takeYard_43 h hE
theorem coX8_takeYard (o : Nat) (ho : shOk o) (σ : Mem) (a2 : Int32) (a3 : Int32) (σ2 : Mem) (h : FX8_takeYard o σ a2 a3 = some σ2) : Con SX 5 yX8_takeYard cX8_takeYard 4 none (fun ad => [.ref (ad 0), .ref (ad o), .int a2, .int a3]) σ (fun _ => none) σ2 :=
  con_of (by decide +kernel) (fun _ => Nat.le_of_ble_eq_true rfl) (fun X hE => eX8_takeYard o ho (out := σ2) hE σ a2 a3 h)
-- IceYard won
abbrev mX8_won : MD := (cX8_won, RX8, 2, (some .int), 20)
noncomputable def FX8_won (σ : Mem) (a1 : Int32) : Option (Int32 × Mem) :=
  bi (FX8_isGate σ a1) fun r6 σ5 =>
  if r6 = 0 then
  (some ((-1 : Int32), σ5))
  else
  (bi (FX0_leastTurns σ5 (σ5.2 0 9) a1) fun r8 σ7 =>
  some (r8, σ7))
set_option maxHeartbeats 4000000 in
set_option maxRecDepth 100000 in
theorem eX8_won {X : CX} {out : Int32 × Mem} (hE : Ends X SX (some (.int out.1)) out.2) (σ : Mem) (a1 : Int32) (h : FX8_won σ a1 = some out) : J X SX mX8_won σ 0 [(0, .ref (xad X 0)), (1, .int a1)] [] := by
  refine r_iload_n 1 dX8_won_0 rfl rfl rfl ?_
  obtain ⟨r6, σ5, hc, h⟩ := bi_of h
  refine r_callS [] [.int r6]  (coX8_isGate σ a1 r6 σ5 hc) ms_RX8_169 (by decide) rfl rfl (Nat.le_of_ble_eq_true rfl) rfl dX8_won_1 rfl ?_
  refine r_if_eq dX8_won_4 rfl rfl h (fun c h => ?_) (fun c h => ?_)
  · refine r_iconst dX8_won_22 rfl ki_m1 ?_
    exact r_iret rfl dX8_won_23 h hE
  · refine r_aload_n 0 dX8_won_7 rfl rfl rfl ?_
    refine r_getR fg_RX8_39 rfl rfl dX8_won_8 rfl ?_
    refine r_aload_n 0 dX8_won_11 rfl rfl rfl ?_
    refine r_getL fg_RX8_119 rfl rfl dX8_won_12 rfl ?_
    refine r_iload_n 1 dX8_won_15 rfl rfl rfl ?_
    obtain ⟨r8, σ7, hc, h⟩ := bi_of h
    refine r_callV [.long (σ5.2 0 9), .int a1] [] [.int r8]  (coX0_leastTurns σ5 (σ5.2 0 9) a1 r8 σ7 hc) mv_RX8_178 (by decide) rfl rfl rfl rfl rfl (Nat.le_of_ble_eq_true rfl) rfl dX8_won_16 rfl ?_
    refine r_goto dX8_won_19 rfl ?_
    exact r_iret rfl dX8_won_23 h hE
theorem coX8_won (σ : Mem) (a1 : Int32) (r : Int32) (σ2 : Mem) (h : FX8_won σ a1 = some (r, σ2)) : Con SX 20 yX8_won cX8_won 2 (some .int) (fun ad => [.ref (ad 0), .int a1]) σ (fun _ => some (.int r)) σ2 :=
  con_of (by decide +kernel) (fun _ => Nat.le_of_ble_eq_true rfl) (fun X hE => eX8_won (out := (r, σ2)) hE σ a1 h)
-- IceYard$Sheet faultTakenAs
abbrev mX5_faultTakenAs : MD := (cX5_faultTakenAs, RX5, 2, (some .int), 2)
noncomputable def FX5_faultTakenAs (o : Nat) (σ : Mem) (a1 : Int32) : Option (Int32 × Mem) :=
  bi (FX5_hasNothing o σ) fun r4 σ3 =>
  if r4 = 0 then
  (if (σ3.1 o 1) = a1 then
  (some ((0 : Int32), σ3))
  else
  (some ((2 : Int32), σ3)))
  else
  (some ((1 : Int32), σ3))
set_option maxHeartbeats 4000000 in
set_option maxRecDepth 100000 in
theorem eX5_faultTakenAs {X : CX} {out : Int32 × Mem} (o : Nat) (ho : shOk o) (hE : Ends X SX (some (.int out.1)) out.2) (σ : Mem) (a1 : Int32) (h : FX5_faultTakenAs o σ a1 = some out) : J X SX mX5_faultTakenAs σ 0 [(0, .ref (xad X o)), (1, .int a1)] [] := by
  refine r_aload_n 0 dX5_faultTakenAs_0 rfl rfl rfl ?_
  obtain ⟨r4, σ3, hc, h⟩ := bi_of h
  refine r_callV [] [] [.int r4]  (coX5_hasNothing o ho σ r4 σ3 hc) mv_RX5_28 (by decide) (sx_obj ho) rfl rfl rfl rfl (Nat.le_of_ble_eq_true rfl) rfl dX5_faultTakenAs_1 rfl ?_
  refine r_if_eq dX5_faultTakenAs_4 rfl rfl h (fun c h => ?_) (fun c h => ?_)
  · refine r_aload_n 0 dX5_faultTakenAs_9 rfl rfl rfl ?_
    refine r_getI fg_RX5_15 (sx_obj ho) rfl dX5_faultTakenAs_10 rfl ?_
    refine r_iload_n 1 dX5_faultTakenAs_13 rfl rfl rfl ?_
    refine r_icmp_ne dX5_faultTakenAs_14 rfl rfl h (fun c h => ?_) (fun c h => ?_)
    · refine r_iconst dX5_faultTakenAs_21 rfl ki_2 ?_
      exact r_iret rfl dX5_faultTakenAs_22 h hE
    · refine r_iconst dX5_faultTakenAs_17 rfl ki_0 ?_
      refine r_goto dX5_faultTakenAs_18 rfl ?_
      exact r_iret rfl dX5_faultTakenAs_22 h hE
  · refine r_iconst dX5_faultTakenAs_7 rfl ki_1 ?_
    exact r_iret rfl dX5_faultTakenAs_8 h hE
theorem coX5_faultTakenAs (o : Nat) (ho : shOk o) (σ : Mem) (a1 : Int32) (r : Int32) (σ2 : Mem) (h : FX5_faultTakenAs o σ a1 = some (r, σ2)) : Con SX 2 yX5_faultTakenAs cX5_faultTakenAs 2 (some .int) (fun ad => [.ref (ad o), .int a1]) σ (fun _ => some (.int r)) σ2 :=
  con_of (by decide +kernel) (fun _ => Nat.le_of_ble_eq_true rfl) (fun X hE => eX5_faultTakenAs o ho (out := (r, σ2)) hE σ a1 h)
-- IceYard$Sheet hasCells
abbrev mX5_hasCells : MD := (cX5_hasCells, RX5, 3, (some .boolean), 1)
noncomputable def FX5_hasCells (o : Nat) (σ : Mem) (a1 : Int32) (a2 : Int32) : Option (Int32 × Mem) :=
  if a1 < 0 then
  (rz (0 : Int32) σ)
  else
  (if a2 < 0 then
  (rz (0 : Int32) σ)
  else
  (if (σ.1 o 2) < a1 then
  (rz (0 : Int32) σ)
  else
  (if ((σ.1 o 2) - a1) < a2 then
  (rz (0 : Int32) σ)
  else
  (rz (1 : Int32) σ))))
set_option maxHeartbeats 4000000 in
set_option maxRecDepth 100000 in
theorem eX5_hasCells {X : CX} {out : Int32 × Mem} (o : Nat) (ho : shOk o) (hE : Ends X SX (some (.int out.1)) out.2) (σ : Mem) (a1 : Int32) (a2 : Int32) (h : FX5_hasCells o σ a1 a2 = some out) : J X SX mX5_hasCells σ 0 [(0, .ref (xad X o)), (1, .int a1), (2, .int a2)] [] := by
  refine r_iload_n 1 dX5_hasCells_0 rfl rfl rfl ?_
  refine r_if_lt dX5_hasCells_1 rfl rfl h (fun c h => ?_) (fun c h => ?_)
  · refine r_iconst dX5_hasCells_30 rfl ki_0 ?_
    exact r_zret rfl dX5_hasCells_31 h hE
  · refine r_iload_n 2 dX5_hasCells_4 rfl rfl rfl ?_
    refine r_if_lt dX5_hasCells_5 rfl rfl h (fun c h => ?_) (fun c h => ?_)
    · refine r_iconst dX5_hasCells_30 rfl ki_0 ?_
      exact r_zret rfl dX5_hasCells_31 h hE
    · refine r_iload_n 1 dX5_hasCells_8 rfl rfl rfl ?_
      refine r_aload_n 0 dX5_hasCells_9 rfl rfl rfl ?_
      refine r_getI fg_RX5_19 (sx_obj ho) rfl dX5_hasCells_10 rfl ?_
      refine r_icmp_gt dX5_hasCells_13 rfl rfl h (fun c h => ?_) (fun c h => ?_)
      · refine r_iconst dX5_hasCells_30 rfl ki_0 ?_
        exact r_zret rfl dX5_hasCells_31 h hE
      · refine r_iload_n 2 dX5_hasCells_16 rfl rfl rfl ?_
        refine r_aload_n 0 dX5_hasCells_17 rfl rfl rfl ?_
        refine r_getI fg_RX5_19 (sx_obj ho) rfl dX5_hasCells_18 rfl ?_
        refine r_iload_n 1 dX5_hasCells_21 rfl rfl rfl ?_
        refine r_isub dX5_hasCells_22 rfl ?_
        refine r_icmp_gt dX5_hasCells_23 rfl rfl h (fun c h => ?_) (fun c h => ?_)
        · refine r_iconst dX5_hasCells_30 rfl ki_0 ?_
          exact r_zret rfl dX5_hasCells_31 h hE
        · refine r_iconst dX5_hasCells_26 rfl ki_1 ?_
          refine r_goto dX5_hasCells_27 rfl ?_
          exact r_zret rfl dX5_hasCells_31 h hE
theorem coX5_hasCells (o : Nat) (ho : shOk o) (σ : Mem) (a1 : Int32) (a2 : Int32) (r : Int32) (σ2 : Mem) (h : FX5_hasCells o σ a1 a2 = some (r, σ2)) : Con SX 1 yX5_hasCells cX5_hasCells 3 (some .boolean) (fun ad => [.ref (ad o), .int a1, .int a2]) σ (fun _ => some (.int r)) σ2 :=
  con_of (by decide +kernel) (fun _ => Nat.le_of_ble_eq_true rfl) (fun X hE => eX5_hasCells o ho (out := (r, σ2)) hE σ a1 a2 h)
-- IceYard$Text isSign
abbrev mX7_isSign : MD := (cX7_isSign, RX7, 1, (some .boolean), 2)
noncomputable def FX7_isSign (σ : Mem) (a0 : Int32) : Option (Int32 × Mem) :=
  if a0 = (46 : Int32) then
  (rz (1 : Int32) σ)
  else
  (if a0 = (35 : Int32) then
  (rz (1 : Int32) σ)
  else
  (if a0 = (115 : Int32) then
  (rz (1 : Int32) σ)
  else
  (if a0 = (99 : Int32) then
  (rz (1 : Int32) σ)
  else
  (if a0 = (97 : Int32) then
  (rz (1 : Int32) σ)
  else
  (if a0 = (98 : Int32) then
  (rz (1 : Int32) σ)
  else
  (bi (FX7_kindOfSign σ a0) fun r4 σ3 =>
  if r4 < 0 then
  (rz (0 : Int32) σ3)
  else
  (rz (1 : Int32) σ3)))))))
set_option maxHeartbeats 4000000 in
set_option maxRecDepth 100000 in
theorem eX7_isSign {X : CX} {out : Int32 × Mem} (hE : Ends X SX (some (.int out.1)) out.2) (σ : Mem) (a0 : Int32) (h : FX7_isSign σ a0 = some out) : J X SX mX7_isSign σ 0 [(0, .int a0)] [] := by
  refine r_iload_n 0 dX7_isSign_0 rfl rfl rfl ?_
  refine r_bipush dX7_isSign_1 rfl kb_46 ?_
  refine r_icmp_eq dX7_isSign_3 rfl rfl h (fun c h => ?_) (fun c h => ?_)
  · refine r_iconst dX7_isSign_43 rfl ki_1 ?_
    refine r_goto dX7_isSign_44 rfl ?_
    exact r_zret rfl dX7_isSign_48 h hE
  · refine r_iload_n 0 dX7_isSign_6 rfl rfl rfl ?_
    refine r_bipush dX7_isSign_7 rfl kb_35 ?_
    refine r_icmp_eq dX7_isSign_9 rfl rfl h (fun c h => ?_) (fun c h => ?_)
    · refine r_iconst dX7_isSign_43 rfl ki_1 ?_
      refine r_goto dX7_isSign_44 rfl ?_
      exact r_zret rfl dX7_isSign_48 h hE
    · refine r_iload_n 0 dX7_isSign_12 rfl rfl rfl ?_
      refine r_bipush dX7_isSign_13 rfl kb_115 ?_
      refine r_icmp_eq dX7_isSign_15 rfl rfl h (fun c h => ?_) (fun c h => ?_)
      · refine r_iconst dX7_isSign_43 rfl ki_1 ?_
        refine r_goto dX7_isSign_44 rfl ?_
        exact r_zret rfl dX7_isSign_48 h hE
      · refine r_iload_n 0 dX7_isSign_18 rfl rfl rfl ?_
        refine r_bipush dX7_isSign_19 rfl kb_99 ?_
        refine r_icmp_eq dX7_isSign_21 rfl rfl h (fun c h => ?_) (fun c h => ?_)
        · refine r_iconst dX7_isSign_43 rfl ki_1 ?_
          refine r_goto dX7_isSign_44 rfl ?_
          exact r_zret rfl dX7_isSign_48 h hE
        · refine r_iload_n 0 dX7_isSign_24 rfl rfl rfl ?_
          refine r_bipush dX7_isSign_25 rfl kb_97 ?_
          refine r_icmp_eq dX7_isSign_27 rfl rfl h (fun c h => ?_) (fun c h => ?_)
          · refine r_iconst dX7_isSign_43 rfl ki_1 ?_
            refine r_goto dX7_isSign_44 rfl ?_
            exact r_zret rfl dX7_isSign_48 h hE
          · refine r_iload_n 0 dX7_isSign_30 rfl rfl rfl ?_
            refine r_bipush dX7_isSign_31 rfl kb_98 ?_
            refine r_icmp_eq dX7_isSign_33 rfl rfl h (fun c h => ?_) (fun c h => ?_)
            · refine r_iconst dX7_isSign_43 rfl ki_1 ?_
              refine r_goto dX7_isSign_44 rfl ?_
              exact r_zret rfl dX7_isSign_48 h hE
            · refine r_iload_n 0 dX7_isSign_36 rfl rfl rfl ?_
              obtain ⟨r4, σ3, hc, h⟩ := bi_of h
              refine r_callS [] [.int r4]  (coX7_kindOfSign σ a0 r4 σ3 hc) ms_RX7_21 (by decide) rfl rfl (Nat.le_of_ble_eq_true rfl) rfl dX7_isSign_37 rfl ?_
              refine r_if_lt dX7_isSign_40 rfl rfl h (fun c h => ?_) (fun c h => ?_)
              · refine r_iconst dX7_isSign_47 rfl ki_0 ?_
                exact r_zret rfl dX7_isSign_48 h hE
              · refine r_iconst dX7_isSign_43 rfl ki_1 ?_
                refine r_goto dX7_isSign_44 rfl ?_
                exact r_zret rfl dX7_isSign_48 h hE
theorem coX7_isSign (σ : Mem) (a0 : Int32) (r : Int32) (σ2 : Mem) (h : FX7_isSign σ a0 = some (r, σ2)) : Con SX 2 yX7_isSign cX7_isSign 1 (some .boolean) (fun ad => [.int a0]) σ (fun _ => some (.int r)) σ2 :=
  con_of (by decide +kernel) (fun _ => Nat.le_of_ble_eq_true rfl) (fun X hE => eX7_isSign (out := (r, σ2)) hE σ a0 h)

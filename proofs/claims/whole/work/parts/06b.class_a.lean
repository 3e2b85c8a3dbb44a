-- IceYard faulty
abbrev mX8_faulty : MD := (cX8_faulty, RX8, 2, (some .int), 1)
noncomputable def FX8_faulty (σ : Mem) (a1 : Int32) : Option (Int32 × Mem) :=
  nm (setI σ 0 12 a1) fun σ2 =>
  some (((-10 : Int32) - a1), σ2)
set_option maxHeartbeats 4000000 in
set_option maxRecDepth 100000 in
theorem eX8_faulty {X : CX} {out : Int32 × Mem} (hE : Ends X SX (some (.int out.1)) out.2) (σ : Mem) (a1 : Int32) (h : FX8_faulty σ a1 = some out) : J X SX mX8_faulty σ 0 [(0, .ref (xad X 0)), (1, .int a1)] [] := by
  refine r_aload_n 0 dX8_faulty_0 rfl rfl rfl ?_
  refine r_iload_n 1 dX8_faulty_1 rfl rfl rfl ?_
  refine r_putI fp_RX8_73 rfl rfl dX8_faulty_2 rfl h (fun σ2 h => ?_)
  refine r_bipush dX8_faulty_5 rfl kb_m10 ?_
  refine r_iload_n 1 dX8_faulty_7 rfl rfl rfl ?_
  refine r_isub dX8_faulty_8 rfl ?_
  exact r_iret rfl dX8_faulty_9 h hE
theorem coX8_faulty (σ : Mem) (a1 : Int32) (r : Int32) (σ2 : Mem) (h : FX8_faulty σ a1 = some (r, σ2)) : Con SX 1 yX8_faulty cX8_faulty 2 (some .int) (fun ad => [.ref (ad 0), .int a1]) σ (fun _ => some (.int r)) σ2 :=
  con_of (by decide +kernel) (fun _ => Nat.le_of_ble_eq_true rfl) (fun X hE => eX8_faulty (out := (r, σ2)) hE σ a1 h)
-- IceYard$Ground hasBlock
abbrev mX1_hasBlock : MD := (cX1_hasBlock, RX1, 2, (some .boolean), 1)
noncomputable def FX1_hasBlock (σ : Mem) (a1 : Int32) : Option (Int32 × Mem) :=
  if a1 < 0 then
  (rz (0 : Int32) σ)
  else
  (if (σ.1 1 6) ≤ a1 then
  (rz (0 : Int32) σ)
  else
  (if (6 : Int32) ≤ a1 then
  (rz (0 : Int32) σ)
  else
  (rz (1 : Int32) σ)))
set_option maxHeartbeats 4000000 in
set_option maxRecDepth 100000 in
theorem eX1_hasBlock {X : CX} {out : Int32 × Mem} (hE : Ends X SX (some (.int out.1)) out.2) (σ : Mem) (a1 : Int32) (h : FX1_hasBlock σ a1 = some out) : J X SX mX1_hasBlock σ 0 [(0, .ref (xad X 1)), (1, .int a1)] [] := by
  refine r_iload_n 1 dX1_hasBlock_0 rfl rfl rfl ?_
  refine r_if_lt dX1_hasBlock_1 rfl rfl h (fun c h => ?_) (fun c h => ?_)
  · refine r_iconst dX1_hasBlock_22 rfl ki_0 ?_
    exact r_zret rfl dX1_hasBlock_23 h hE
  · refine r_iload_n 1 dX1_hasBlock_4 rfl rfl rfl ?_
    refine r_aload_n 0 dX1_hasBlock_5 rfl rfl rfl ?_
    refine r_getI fg_RX1_31 rfl rfl dX1_hasBlock_6 rfl ?_
    refine r_icmp_ge dX1_hasBlock_9 rfl rfl h (fun c h => ?_) (fun c h => ?_)
    · refine r_iconst dX1_hasBlock_22 rfl ki_0 ?_
      exact r_zret rfl dX1_hasBlock_23 h hE
    · refine r_iload_n 1 dX1_hasBlock_12 rfl rfl rfl ?_
      refine r_bipush dX1_hasBlock_13 rfl kb_6 ?_
      refine r_icmp_ge dX1_hasBlock_15 rfl rfl h (fun c h => ?_) (fun c h => ?_)
      · refine r_iconst dX1_hasBlock_22 rfl ki_0 ?_
        exact r_zret rfl dX1_hasBlock_23 h hE
      · refine r_iconst dX1_hasBlock_18 rfl ki_1 ?_
        refine r_goto dX1_hasBlock_19 rfl ?_
        exact r_zret rfl dX1_hasBlock_23 h hE
theorem coX1_hasBlock (σ : Mem) (a1 : Int32) (r : Int32) (σ2 : Mem) (h : FX1_hasBlock σ a1 = some (r, σ2)) : Con SX 1 yX1_hasBlock cX1_hasBlock 2 (some .boolean) (fun ad => [.ref (ad 1), .int a1]) σ (fun _ => some (.int r)) σ2 :=
  con_of (by decide +kernel) (fun _ => Nat.le_of_ble_eq_true rfl) (fun X hE => eX1_hasBlock (out := (r, σ2)) hE σ a1 h)
-- IceYard$Ground kindOf
abbrev mX1_kindOf : MD := (cX1_kindOf, RX1, 2, (some .int), 2)
noncomputable def FX1_kindOf (σ : Mem) (a1 : Int32) : Option (Int32 × Mem) :=
  bi (FX1_hasBlock σ a1) fun r5 σ4 =>
  if r5 = 0 then
  (some ((0 : Int32), σ4))
  else
  (rd a1 6 fun j6 =>
  some ((σ4.1 18 j6), σ4))
set_option maxHeartbeats 4000000 in
set_option maxRecDepth 100000 in
theorem eX1_kindOf {X : CX} {out : Int32 × Mem} (hE : Ends X SX (some (.int out.1)) out.2) (σ : Mem) (a1 : Int32) (h : FX1_kindOf σ a1 = some out) : J X SX mX1_kindOf σ 0 [(0, .ref (xad X 1)), (1, .int a1)] [] := by
  refine r_aload_n 0 dX1_kindOf_0 rfl rfl rfl ?_
  refine r_iload_n 1 dX1_kindOf_1 rfl rfl rfl ?_
  obtain ⟨r5, σ4, hc, h⟩ := bi_of h
  refine r_callV [.int a1] [] [.int r5]  (coX1_hasBlock σ a1 r5 σ4 hc) mv_RX1_34 (by decide) rfl rfl rfl rfl rfl (Nat.le_of_ble_eq_true rfl) rfl dX1_kindOf_2 rfl ?_
  refine r_if_eq dX1_kindOf_5 rfl rfl h (fun c h => ?_) (fun c h => ?_)
  · refine r_iconst dX1_kindOf_17 rfl ki_0 ?_
    exact r_iret rfl dX1_kindOf_18 h hE
  · refine r_aload_n 0 dX1_kindOf_8 rfl rfl rfl ?_
    refine r_getR fg_RX1_9 rfl rfl dX1_kindOf_9 rfl ?_
    refine r_iload_n 1 dX1_kindOf_12 rfl rfl rfl ?_
    refine r_iald rfl dX1_kindOf_13 rfl h (fun j6 h => ?_)
    refine r_goto dX1_kindOf_14 rfl ?_
    exact r_iret rfl dX1_kindOf_18 h hE
theorem coX1_kindOf (σ : Mem) (a1 : Int32) (r : Int32) (σ2 : Mem) (h : FX1_kindOf σ a1 = some (r, σ2)) : Con SX 2 yX1_kindOf cX1_kindOf 2 (some .int) (fun ad => [.ref (ad 1), .int a1]) σ (fun _ => some (.int r)) σ2 :=
  con_of (by decide +kernel) (fun _ => Nat.le_of_ble_eq_true rfl) (fun X hE => eX1_kindOf (out := (r, σ2)) hE σ a1 h)
-- IceYard as
abbrev mX8_as : MD := (cX8_as, RX8, 3, (some .int), 3)
noncomputable def FX8_as (σ : Mem) (a1 : Int32) (a2 : Int32) : Option (Int32 × Mem) :=
  nm (setI σ 0 12 (0 : Int32)) fun σ8 =>
  bi (FX1_hasBlock σ8 a1) fun r10 σ9 =>
  if r10 = 0 then
  (some ((-1 : Int32), σ9))
  else
  (if a2 < 0 then
  (some ((-2 : Int32), σ9))
  else
  (if a2 ≤ (2 : Int32) then
  (bi (FX1_kindOf σ9 a1) fun r12 σ11 =>
  if a2 ≤ r12 then
  (some ((1 : Int32), σ11))
  else
  (bi (FX8_faulty σ11 (2 : Int32)) fun r14 σ13 =>
  some (r14, σ13)))
  else
  (some ((-2 : Int32), σ9))))
set_option maxHeartbeats 4000000 in
set_option maxRecDepth 100000 in
theorem eX8_as {X : CX} {out : Int32 × Mem} (hE : Ends X SX (some (.int out.1)) out.2) (σ : Mem) (a1 : Int32) (a2 : Int32) (h : FX8_as σ a1 a2 = some out) : J X SX mX8_as σ 0 [(0, .ref (xad X 0)), (1, .int a1), (2, .int a2)] [] := by
  refine r_aload_n 0 dX8_as_0 rfl rfl rfl ?_
  refine r_iconst dX8_as_1 rfl ki_0 ?_
  refine r_putI fp_RX8_73 rfl rfl dX8_as_2 rfl h (fun σ8 h => ?_)
  refine r_aload_n 0 dX8_as_5 rfl rfl rfl ?_
  refine r_getR fg_RX8_14 rfl rfl dX8_as_6 rfl ?_
  refine r_iload_n 1 dX8_as_9 rfl rfl rfl ?_
  obtain ⟨r10, σ9, hc, h⟩ := bi_of h
  refine r_callV [.int a1] [] [.int r10]  (coX1_hasBlock σ8 a1 r10 σ9 hc) mv_RX8_144 (by decide) rfl rfl rfl rfl rfl (Nat.le_of_ble_eq_true rfl) rfl dX8_as_10 rfl ?_
  refine r_if_ne dX8_as_13 rfl rfl h (fun c h => ?_) (fun c h => ?_)
  · refine r_iload_n 2 dX8_as_18 rfl rfl rfl ?_
    refine r_if_lt dX8_as_19 rfl rfl h (fun c h => ?_) (fun c h => ?_)
    · refine r_bipush dX8_as_27 rfl kb_m2 ?_
      exact r_iret rfl dX8_as_29 h hE
    · refine r_iload_n 2 dX8_as_22 rfl rfl rfl ?_
      refine r_iconst dX8_as_23 rfl ki_2 ?_
      refine r_icmp_le dX8_as_24 rfl rfl h (fun c h => ?_) (fun c h => ?_)
      · refine r_aload_n 0 dX8_as_30 rfl rfl rfl ?_
        refine r_getR fg_RX8_14 rfl rfl dX8_as_31 rfl ?_
        refine r_iload_n 1 dX8_as_34 rfl rfl rfl ?_
        obtain ⟨r12, σ11, hc, h⟩ := bi_of h
        refine r_callV [.int a1] [] [.int r12]  (coX1_kindOf σ9 a1 r12 σ11 hc) mv_RX8_147 (by decide) rfl rfl rfl rfl rfl (Nat.le_of_ble_eq_true rfl) rfl dX8_as_35 rfl ?_
        refine r_iload_n 2 dX8_as_38 rfl rfl rfl ?_
        refine r_icmp_ge dX8_as_39 rfl rfl h (fun c h => ?_) (fun c h => ?_)
        · refine r_iconst dX8_as_50 rfl ki_1 ?_
          exact r_iret rfl dX8_as_51 h hE
        · refine r_aload_n 0 dX8_as_42 rfl rfl rfl ?_
          refine r_iconst dX8_as_43 rfl ki_2 ?_
          obtain ⟨r14, σ13, hc, h⟩ := bi_of h
          refine r_callV [.int (2 : Int32)] [] [.int r14]  (coX8_faulty σ11 (2 : Int32) r14 σ13 hc) mv_RX8_93 (by decide) rfl rfl rfl rfl rfl (Nat.le_of_ble_eq_true rfl) rfl dX8_as_44 rfl ?_
          refine r_goto dX8_as_47 rfl ?_
          exact r_iret rfl dX8_as_51 h hE
      · refine r_bipush dX8_as_27 rfl kb_m2 ?_
        exact r_iret rfl dX8_as_29 h hE
  · refine r_iconst dX8_as_16 rfl ki_m1 ?_
    exact r_iret rfl dX8_as_17 h hE
theorem coX8_as (σ : Mem) (a1 : Int32) (a2 : Int32) (r : Int32) (σ2 : Mem) (h : FX8_as σ a1 a2 = some (r, σ2)) : Con SX 3 yX8_as cX8_as 3 (some .int) (fun ad => [.ref (ad 0), .int a1, .int a2]) σ (fun _ => some (.int r)) σ2 :=
  con_of (by decide +kernel) (fun _ => Nat.le_of_ble_eq_true rfl) (fun X hE => eX8_as (out := (r, σ2)) hE σ a1 a2 h)
-- IceYard placeOf
abbrev mX8_placeOf : MD := (cX8_placeOf, RX8, 3, (some .int), 1)
noncomputable def FX8_placeOf (σ : Mem) (a0 : Int64) (a2 : Int32) : Option (Int32 × Mem) :=
  some (((((((a0).toUInt64 >>> ((((6 : Int32) * a2)).toInt64.toUInt64 &&& Int64.toUInt64 63)).toInt64) &&& (63 : Int64))).toInt32), σ)
set_option maxHeartbeats 4000000 in
set_option maxRecDepth 100000 in
theorem eX8_placeOf {X : CX} {out : Int32 × Mem} (hE : Ends X SX (some (.int out.1)) out.2) (σ : Mem) (a0 : Int64) (a2 : Int32) (h : FX8_placeOf σ a0 a2 = some out) : J X SX mX8_placeOf σ 0 [(0, .long a0), (2, .int a2)] [] := by
  refine r_lload_n 0 dX8_placeOf_0 rfl rfl rfl ?_
  refine r_bipush dX8_placeOf_1 rfl kb_6 ?_
  refine r_iload_n 1 dX8_placeOf_3 rfl rfl rfl ?_
  refine r_imul dX8_placeOf_4 rfl ?_
  refine r_lushr dX8_placeOf_5 rfl ?_
  refine r_ldc2 dX8_placeOf_6 rfl cl_RX8_266 ?_
  refine r_land dX8_placeOf_9 rfl ?_
  refine r_l2i dX8_placeOf_10 rfl ?_
  exact r_iret rfl dX8_placeOf_11 h hE
theorem coX8_placeOf (σ : Mem) (a0 : Int64) (a2 : Int32) (r : Int32) (σ2 : Mem) (h : FX8_placeOf σ a0 a2 = some (r, σ2)) : Con SX 1 yX8_placeOf cX8_placeOf 3 (some .int) (fun ad => [.long a0, .int a2]) σ (fun _ => some (.int r)) σ2 :=
  con_of (by decide +kernel) (fun _ => Nat.le_of_ble_eq_true rfl) (fun X hE => eX8_placeOf (out := (r, σ2)) hE σ a0 a2 h)
-- IceYard$Ground cells
abbrev mX1_cells : MD := (cX1_cells, RX1, 1, (some .int), 1)
noncomputable def FX1_cells (σ : Mem) : Option (Int32 × Mem) :=
  some (((σ.1 1 4) * (σ.1 1 5)), σ)
set_option maxHeartbeats 4000000 in
set_option maxRecDepth 100000 in
theorem eX1_cells {X : CX} {out : Int32 × Mem} (hE : Ends X SX (some (.int out.1)) out.2) (σ : Mem) (h : FX1_cells σ = some out) : J X SX mX1_cells σ 0 [(0, .ref (xad X 1))] [] := by
  refine r_aload_n 0 dX1_cells_0 rfl rfl rfl ?_
  refine r_getI fg_RX1_24 rfl rfl dX1_cells_1 rfl ?_
  refine r_aload_n 0 dX1_cells_4 rfl rfl rfl ?_
  refine r_getI fg_RX1_28 rfl rfl dX1_cells_5 rfl ?_
  refine r_imul dX1_cells_8 rfl ?_
  exact r_iret rfl dX1_cells_9 h hE
theorem coX1_cells (σ : Mem) (r : Int32) (σ2 : Mem) (h : FX1_cells σ = some (r, σ2)) : Con SX 1 yX1_cells cX1_cells 1 (some .int) (fun ad => [.ref (ad 1)]) σ (fun _ => some (.int r)) σ2 :=
  con_of (by decide +kernel) (fun _ => Nat.le_of_ble_eq_true rfl) (fun X hE => eX1_cells (out := (r, σ2)) hE σ h)
-- IceYard has
abbrev mX8_has : MD := (cX8_has, RX8, 3, (some .boolean), 1)
noncomputable def FX8_has (σ : Mem) (a0 : Int64) (a2 : Int32) : Option (Int32 × Mem) :=
  if (lg_cmp ((((a0).toUInt64 >>> ((a2).toInt64.toUInt64 &&& Int64.toUInt64 63)).toInt64) &&& (1 : Int64)) (0 : Int64)) = 0 then
  (rz (0 : Int32) σ)
  else
  (rz (1 : Int32) σ)
set_option maxHeartbeats 4000000 in
set_option maxRecDepth 100000 in
theorem eX8_has {X : CX} {out : Int32 × Mem} (hE : Ends X SX (some (.int out.1)) out.2) (σ : Mem) (a0 : Int64) (a2 : Int32) (h : FX8_has σ a0 a2 = some out) : J X SX mX8_has σ 0 [(0, .long a0), (2, .int a2)] [] := by
  refine r_lload_n 0 dX8_has_0 rfl rfl rfl ?_
  refine r_iload_n 1 dX8_has_1 rfl rfl rfl ?_
  refine r_lushr dX8_has_2 rfl ?_
  refine r_lconst dX8_has_3 rfl kl_1 ?_
  refine r_land dX8_has_4 rfl ?_
  refine r_lconst dX8_has_5 rfl kl_0 ?_
  refine r_lcmp dX8_has_6 rfl ?_
  refine r_if_eq dX8_has_7 rfl rfl h (fun c h => ?_) (fun c h => ?_)
  · refine r_iconst dX8_has_14 rfl ki_0 ?_
    exact r_zret rfl dX8_has_15 h hE
  · refine r_iconst dX8_has_10 rfl ki_1 ?_
    refine r_goto dX8_has_11 rfl ?_
    exact r_zret rfl dX8_has_15 h hE
theorem coX8_has (σ : Mem) (a0 : Int64) (a2 : Int32) (r : Int32) (σ2 : Mem) (h : FX8_has σ a0 a2 = some (r, σ2)) : Con SX 1 yX8_has cX8_has 3 (some .boolean) (fun ad => [.long a0, .int a2]) σ (fun _ => some (.int r)) σ2 :=
  con_of (by decide +kernel) (fun _ => Nat.le_of_ble_eq_true rfl) (fun X hE => eX8_has (out := (r, σ2)) hE σ a0 a2 h)
-- IceYard$Ground openCracks
abbrev mX1_openCracks : MD := (cX1_openCracks, RX1, 6, (some .long), 2)
noncomputable def BX1_openCracks_5 (rl5 : Mem → Int64 → Int64 → Int32 → Option (Int64 × Mem)) (σ : Mem) (x1 : Int64) (x3 : Int64) (x5 : Int32) : Option (Int64 × Mem) :=
  if (σ.1 1 7) ≤ x5 then
  (some (x3, σ))
  else
  (if (4 : Int32) ≤ x5 then
  (some (x3, σ))
  else
  (bi (FX8_has σ x1 ((36 : Int32) + x5)) fun r8 σ7 =>
  if r8 = 0 then
  (rd x5 4 fun j10 =>
  nm (x3 ||| ((1 : Int64) <<< (((σ7.1 20 j10)).toInt64 &&& 63))) fun x_11 =>
  nm (x5 + (1 : Int32)) fun x_12 =>
  rl5 σ7 x1 x_11 x_12)
  else
  (nm (x5 + (1 : Int32)) fun x_9 =>
  rl5 σ7 x1 x3 x_9)))
set_option maxHeartbeats 4000000 in
set_option maxRecDepth 100000 in
theorem jX1_openCracks_5 {X : CX} {out : Int64 × Mem} (hE : Ends X SX (some (.long out.1)) out.2) (rl5 : Mem → Int64 → Int64 → Int32 → Option (Int64 × Mem)) (hr5 : ∀ (σ : Mem) (x1 : Int64) (x3 : Int64) (x5 : Int32), rl5 σ x1 x3 x5 = some out → J X SX mX1_openCracks σ 5 [(0, .ref (xad X 1)), (1, .long x1), (3, .long x3), (5, .int x5)] []) (σ : Mem) (x1 : Int64) (x3 : Int64) (x5 : Int32) (h : BX1_openCracks_5 rl5 σ x1 x3 x5 = some out) : J X SX mX1_openCracks σ 5 [(0, .ref (xad X 1)), (1, .long x1), (3, .long x3), (5, .int x5)] [] := by
  refine r_iload 3 dX1_openCracks_5 rfl rfl ?_
  refine r_aload_n 0 dX1_openCracks_7 rfl rfl rfl ?_
  refine r_getI fg_RX1_44 rfl rfl dX1_openCracks_8 rfl ?_
  refine r_icmp_ge dX1_openCracks_11 rfl rfl h (fun c h => ?_) (fun c h => ?_)
  · refine r_lload_n 2 dX1_openCracks_50 rfl rfl rfl ?_
    exact r_lret rfl dX1_openCracks_51 h hE
  · refine r_iload 3 dX1_openCracks_14 rfl rfl ?_
    refine r_iconst dX1_openCracks_16 rfl ki_4 ?_
    refine r_icmp_ge dX1_openCracks_17 rfl rfl h (fun c h => ?_) (fun c h => ?_)
    · refine r_lload_n 2 dX1_openCracks_50 rfl rfl rfl ?_
      exact r_lret rfl dX1_openCracks_51 h hE
    · refine r_lload_n 1 dX1_openCracks_20 rfl rfl rfl ?_
      refine r_bipush dX1_openCracks_21 rfl kb_36 ?_
      refine r_iload 3 dX1_openCracks_23 rfl rfl ?_
      refine r_iadd dX1_openCracks_25 rfl ?_
      obtain ⟨r8, σ7, hc, h⟩ := bi_of h
      refine r_callN [] [.int r8]  (coX8_has σ x1 ((36 : Int32) + x5) r8 σ7 hc) mn_RX1_90 (by decide) rfl rfl (Nat.le_of_ble_eq_true rfl) rfl dX1_openCracks_26 rfl ?_
      refine r_if_ne dX1_openCracks_29 rfl rfl h (fun c h => ?_) (fun c h => ?_)
      · refine r_iinc 3 (fun x_9 => [(5, .int x_9), (0, .ref (xad X 1)), (1, .long x1), (3, .long x3)]) dX1_openCracks_44 rfl rfl ki_1 (show 5 < 6 by decide) (fun _ => rfl) h (fun x_9 h => ?_)
        refine r_goto dX1_openCracks_47 rfl ?_
        refine r_sub [1, 2, 3, 0] rfl ?_
        exact hr5 σ7 x1 x3 x_9 h
      · refine r_lload_n 2 dX1_openCracks_32 rfl rfl rfl ?_
        refine r_lconst dX1_openCracks_33 rfl kl_1 ?_
        refine r_aload_n 0 dX1_openCracks_34 rfl rfl rfl ?_
        refine r_getR fg_RX1_18 rfl rfl dX1_openCracks_35 rfl ?_
        refine r_iload 3 dX1_openCracks_38 rfl rfl ?_
        refine r_iald rfl dX1_openCracks_40 rfl h (fun j10 h => ?_)
        refine r_lshl dX1_openCracks_41 rfl ?_
        refine r_lor dX1_openCracks_42 rfl ?_
        refine r_lstore_n (fun x_11 => [(3, .long x_11), (0, .ref (xad X 1)), (1, .long x1), (5, .int x5)]) dX1_openCracks_43 rfl rfl (show 3 + 1 < 6 by decide) (fun _ => rfl) h (fun x_11 h => ?_)
        refine r_iinc 3 (fun x_12 => [(5, .int x_12), (3, .long x_11), (0, .ref (xad X 1)), (1, .long x1)]) dX1_openCracks_44 rfl rfl ki_1 (show 5 < 6 by decide) (fun _ => rfl) h (fun x_12 h => ?_)
        refine r_goto dX1_openCracks_47 rfl ?_
        refine r_sub [2, 3, 1, 0] rfl ?_
        exact hr5 σ7 x1 x_11 x_12 h
noncomputable def FX1_openCracks_5 (n : Nat) : Mem → Int64 → Int64 → Int32 → Option (Int64 × Mem) :=
  Nat.rec (fun _ _ _ _ => none) (fun _ ih => BX1_openCracks_5 ih) n
theorem lX1_openCracks_5 {X : CX} {out : Int64 × Mem} (hE : Ends X SX (some (.long out.1)) out.2) : ∀ (n : Nat) (σ : Mem) (x1 : Int64) (x3 : Int64) (x5 : Int32), FX1_openCracks_5 n σ x1 x3 x5 = some out → J X SX mX1_openCracks σ 5 [(0, .ref (xad X 1)), (1, .long x1), (3, .long x3), (5, .int x5)] [] := by
  intro n
  induction n with
  | zero => intro σ x1 x3 x5 h; exact nn h
  | succ n ih => intro σ x1 x3 x5 h; exact jX1_openCracks_5 hE (FX1_openCracks_5 n) ih σ x1 x3 x5 h
noncomputable def FX1_openCracks (σ : Mem) (a1 : Int64) : Option (Int64 × Mem) :=
  FX1_openCracks_5 FU σ a1 (0 : Int64) (0 : Int32)
set_option maxHeartbeats 4000000 in
set_option maxRecDepth 100000 in
theorem eX1_openCracks {X : CX} {out : Int64 × Mem} (hE : Ends X SX (some (.long out.1)) out.2) (σ : Mem) (a1 : Int64) (h : FX1_openCracks σ a1 = some out) : J X SX mX1_openCracks σ 0 [(0, .ref (xad X 1)), (1, .long a1)] [] := by
  refine r_lconst dX1_openCracks_0 rfl kl_0 ?_
  refine r_lstoreV_n [(3, .long (0 : Int64)), (0, .ref (xad X 1)), (1, .long a1)] dX1_openCracks_1 rfl rfl (show 3 + 1 < 6 by decide) rfl ?_
  refine r_iconst dX1_openCracks_2 rfl ki_0 ?_
  refine r_istoreV [(5, .int (0 : Int32)), (3, .long (0 : Int64)), (0, .ref (xad X 1)), (1, .long a1)] dX1_openCracks_3 rfl (show 5 < 6 by decide) rfl ?_
  refine r_sub [2, 3, 1, 0] rfl ?_
  exact lX1_openCracks_5 hE FU σ a1 (0 : Int64) (0 : Int32) h
theorem coX1_openCracks (σ : Mem) (a1 : Int64) (r : Int64) (σ2 : Mem) (h : FX1_openCracks σ a1 = some (r, σ2)) : Con SX 2 yX1_openCracks cX1_openCracks 6 (some .long) (fun ad => [.ref (ad 1), .long a1]) σ (fun _ => some (.long r)) σ2 :=
  con_of (by decide +kernel) (fun _ => Nat.le_of_ble_eq_true rfl) (fun X hE => eX1_openCracks (out := (r, σ2)) hE σ a1 h)
-- IceYard$Ground signAt
abbrev mX1_signAt : MD := (cX1_signAt, RX1, 4, (some .int), 3)
noncomputable def FX1_signAt (σ : Mem) (a1 : Int32) (a2 : Int64) : Option (Int32 × Mem) :=
  bi (FX8_has σ (σ.2 1 8) a1) fun r14 σ13 =>
  if r14 = 0 then
  (bi (FX8_has σ13 (σ13.2 1 9) a1) fun r16 σ15 =>
  if r16 = 0 then
  (bi (FX1_openCracks σ15 a2) fun r18 σ17 =>
  bi (FX8_has σ17 r18 a1) fun r20 σ19 =>
  if r20 = 0 then
  (bi (FX8_has σ19 (σ19.2 1 10) a1) fun r22 σ21 =>
  if r22 = 0 then
  (bi (FX8_has σ21 (σ21.2 1 11) a1) fun r24 σ23 =>
  if r24 = 0 then
  (some ((0 : Int32), σ23))
  else
  (some ((5 : Int32), σ23)))
  else
  (some ((4 : Int32), σ21)))
  else
  (some ((3 : Int32), σ19)))
  else
  (some ((2 : Int32), σ15)))
  else
  (some ((1 : Int32), σ13))
set_option maxHeartbeats 4000000 in
set_option maxRecDepth 100000 in
theorem eX1_signAt {X : CX} {out : Int32 × Mem} (hE : Ends X SX (some (.int out.1)) out.2) (σ : Mem) (a1 : Int32) (a2 : Int64) (h : FX1_signAt σ a1 a2 = some out) : J X SX mX1_signAt σ 0 [(0, .ref (xad X 1)), (1, .int a1), (2, .long a2)] [] := by
  refine r_aload_n 0 dX1_signAt_0 rfl rfl rfl ?_
  refine r_getL fg_RX1_47 rfl rfl dX1_signAt_1 rfl ?_
  refine r_iload_n 1 dX1_signAt_4 rfl rfl rfl ?_
  obtain ⟨r14, σ13, hc, h⟩ := bi_of h
  refine r_callN [] [.int r14]  (coX8_has σ (σ.2 1 8) a1 r14 σ13 hc) mn_RX1_90 (by decide) rfl rfl (Nat.le_of_ble_eq_true rfl) rfl dX1_signAt_5 rfl ?_
  refine r_if_eq dX1_signAt_8 rfl rfl h (fun c h => ?_) (fun c h => ?_)
  · refine r_aload_n 0 dX1_signAt_13 rfl rfl rfl ?_
    refine r_getL fg_RX1_51 rfl rfl dX1_signAt_14 rfl ?_
    refine r_iload_n 1 dX1_signAt_17 rfl rfl rfl ?_
    obtain ⟨r16, σ15, hc, h⟩ := bi_of h
    refine r_callN [] [.int r16]  (coX8_has σ13 (σ13.2 1 9) a1 r16 σ15 hc) mn_RX1_90 (by decide) rfl rfl (Nat.le_of_ble_eq_true rfl) rfl dX1_signAt_18 rfl ?_
    refine r_if_eq dX1_signAt_21 rfl rfl h (fun c h => ?_) (fun c h => ?_)
    · refine r_aload_n 0 dX1_signAt_26 rfl rfl rfl ?_
      refine r_lload_n 2 dX1_signAt_27 rfl rfl rfl ?_
      obtain ⟨r18, σ17, hc, h⟩ := bi_of h
      refine r_callV [.long a2] [] [.long r18]  (coX1_openCracks σ15 a2 r18 σ17 hc) mv_RX1_101 (by decide) rfl rfl rfl rfl rfl (Nat.le_of_ble_eq_true rfl) rfl dX1_signAt_28 rfl ?_
      refine r_iload_n 1 dX1_signAt_31 rfl rfl rfl ?_
      obtain ⟨r20, σ19, hc, h⟩ := bi_of h
      refine r_callN [] [.int r20]  (coX8_has σ17 r18 a1 r20 σ19 hc) mn_RX1_90 (by decide) rfl rfl (Nat.le_of_ble_eq_true rfl) rfl dX1_signAt_32 rfl ?_
      refine r_if_eq dX1_signAt_35 rfl rfl h (fun c h => ?_) (fun c h => ?_)
      · refine r_aload_n 0 dX1_signAt_40 rfl rfl rfl ?_
        refine r_getL fg_RX1_54 rfl rfl dX1_signAt_41 rfl ?_
        refine r_iload_n 1 dX1_signAt_44 rfl rfl rfl ?_
        obtain ⟨r22, σ21, hc, h⟩ := bi_of h
        refine r_callN [] [.int r22]  (coX8_has σ19 (σ19.2 1 10) a1 r22 σ21 hc) mn_RX1_90 (by decide) rfl rfl (Nat.le_of_ble_eq_true rfl) rfl dX1_signAt_45 rfl ?_
        refine r_if_eq dX1_signAt_48 rfl rfl h (fun c h => ?_) (fun c h => ?_)
        · refine r_aload_n 0 dX1_signAt_53 rfl rfl rfl ?_
          refine r_getL fg_RX1_57 rfl rfl dX1_signAt_54 rfl ?_
          refine r_iload_n 1 dX1_signAt_57 rfl rfl rfl ?_
          obtain ⟨r24, σ23, hc, h⟩ := bi_of h
          refine r_callN [] [.int r24]  (coX8_has σ21 (σ21.2 1 11) a1 r24 σ23 hc) mn_RX1_90 (by decide) rfl rfl (Nat.le_of_ble_eq_true rfl) rfl dX1_signAt_58 rfl ?_
          refine r_if_eq dX1_signAt_61 rfl rfl h (fun c h => ?_) (fun c h => ?_)
          · refine r_iconst dX1_signAt_68 rfl ki_0 ?_
            exact r_iret rfl dX1_signAt_69 h hE
          · refine r_iconst dX1_signAt_64 rfl ki_5 ?_
            refine r_goto dX1_signAt_65 rfl ?_
            exact r_iret rfl dX1_signAt_69 h hE
        · refine r_iconst dX1_signAt_51 rfl ki_4 ?_
          exact r_iret rfl dX1_signAt_52 h hE
      · refine r_iconst dX1_signAt_38 rfl ki_3 ?_
        exact r_iret rfl dX1_signAt_39 h hE
    · refine r_iconst dX1_signAt_24 rfl ki_2 ?_
      exact r_iret rfl dX1_signAt_25 h hE
  · refine r_iconst dX1_signAt_11 rfl ki_1 ?_
    exact r_iret rfl dX1_signAt_12 h hE
theorem coX1_signAt (σ : Mem) (a1 : Int32) (a2 : Int64) (r : Int32) (σ2 : Mem) (h : FX1_signAt σ a1 a2 = some (r, σ2)) : Con SX 3 yX1_signAt cX1_signAt 4 (some .int) (fun ad => [.ref (ad 1), .int a1, .long a2]) σ (fun _ => some (.int r)) σ2 :=
  con_of (by decide +kernel) (fun _ => Nat.le_of_ble_eq_true rfl) (fun X hE => eX1_signAt (out := (r, σ2)) hE σ a1 a2 h)
-- IceYard at
abbrev mX8_at : MD := (cX8_at, RX8, 3, (some .int), 4)
noncomputable def BX8_at_19 (rl19 : Mem → Int32 → Int32 → Option (Int32 × Mem)) (σ : Mem) (x1 : Int32) (x2 : Int32) : Option (Int32 × Mem) :=
  if (σ.1 1 6) ≤ x2 then
  (bi (FX1_signAt σ x1 (σ.2 0 9)) fun r9 σ8 =>
  some (r9, σ8))
  else
  (bi (FX8_placeOf σ (σ.2 0 9) x2) fun r11 σ10 =>
  if r11 = x1 then
  (some (((10 : Int32) + x2), σ10))
  else
  (nm (x2 + (1 : Int32)) fun x_12 =>
  rl19 σ10 x1 x_12))
set_option maxHeartbeats 4000000 in
set_option maxRecDepth 100000 in
theorem jX8_at_19 {X : CX} {out : Int32 × Mem} (hE : Ends X SX (some (.int out.1)) out.2) (rl19 : Mem → Int32 → Int32 → Option (Int32 × Mem)) (hr19 : ∀ (σ : Mem) (x1 : Int32) (x2 : Int32), rl19 σ x1 x2 = some out → J X SX mX8_at σ 19 [(0, .ref (xad X 0)), (1, .int x1), (2, .int x2)] []) (σ : Mem) (x1 : Int32) (x2 : Int32) (h : BX8_at_19 rl19 σ x1 x2 = some out) : J X SX mX8_at σ 19 [(0, .ref (xad X 0)), (1, .int x1), (2, .int x2)] [] := by
  refine r_iload_n 2 dX8_at_19 rfl rfl rfl ?_
  refine r_aload_n 0 dX8_at_20 rfl rfl rfl ?_
  refine r_getR fg_RX8_14 rfl rfl dX8_at_21 rfl ?_
  refine r_getI fg_RX8_106 rfl rfl dX8_at_24 rfl ?_
  refine r_icmp_ge dX8_at_27 rfl rfl h (fun c h => ?_) (fun c h => ?_)
  · refine r_aload_n 0 dX8_at_53 rfl rfl rfl ?_
    refine r_getR fg_RX8_14 rfl rfl dX8_at_54 rfl ?_
    refine r_iload_n 1 dX8_at_57 rfl rfl rfl ?_
    refine r_aload_n 0 dX8_at_58 rfl rfl rfl ?_
    refine r_getL fg_RX8_119 rfl rfl dX8_at_59 rfl ?_
    obtain ⟨r9, σ8, hc, h⟩ := bi_of h
    refine r_callV [.int x1, .long (σ.2 0 9)] [] [.int r9]  (coX1_signAt σ x1 (σ.2 0 9) r9 σ8 hc) mv_RX8_140 (by decide) rfl rfl rfl rfl rfl (Nat.le_of_ble_eq_true rfl) rfl dX8_at_62 rfl ?_
    exact r_iret rfl dX8_at_65 h hE
  · refine r_aload_n 0 dX8_at_30 rfl rfl rfl ?_
    refine r_getL fg_RX8_119 rfl rfl dX8_at_31 rfl ?_
    refine r_iload_n 2 dX8_at_34 rfl rfl rfl ?_
    obtain ⟨r11, σ10, hc, h⟩ := bi_of h
    refine r_callS [] [.int r11]  (coX8_placeOf σ (σ.2 0 9) x2 r11 σ10 hc) ms_RX8_136 (by decide) rfl rfl (Nat.le_of_ble_eq_true rfl) rfl dX8_at_35 rfl ?_
    refine r_iload_n 1 dX8_at_38 rfl rfl rfl ?_
    refine r_icmp_ne dX8_at_39 rfl rfl h (fun c h => ?_) (fun c h => ?_)
    · refine r_iinc 2 (fun x_12 => [(2, .int x_12), (0, .ref (xad X 0)), (1, .int x1)]) dX8_at_47 rfl rfl ki_1 (show 2 < 3 by decide) (fun _ => rfl) h (fun x_12 h => ?_)
      refine r_goto dX8_at_50 rfl ?_
      refine r_sub [1, 2, 0] rfl ?_
      exact hr19 σ10 x1 x_12 h
    · refine r_bipush dX8_at_42 rfl kb_10 ?_
      refine r_iload_n 2 dX8_at_44 rfl rfl rfl ?_
      refine r_iadd dX8_at_45 rfl ?_
      exact r_iret rfl dX8_at_46 h hE
noncomputable def FX8_at_19 (n : Nat) : Mem → Int32 → Int32 → Option (Int32 × Mem) :=
  Nat.rec (fun _ _ _ => none) (fun _ ih => BX8_at_19 ih) n
theorem lX8_at_19 {X : CX} {out : Int32 × Mem} (hE : Ends X SX (some (.int out.1)) out.2) : ∀ (n : Nat) (σ : Mem) (x1 : Int32) (x2 : Int32), FX8_at_19 n σ x1 x2 = some out → J X SX mX8_at σ 19 [(0, .ref (xad X 0)), (1, .int x1), (2, .int x2)] [] := by
  intro n
  induction n with
  | zero => intro σ x1 x2 h; exact nn h
  | succ n ih => intro σ x1 x2 h; exact jX8_at_19 hE (FX8_at_19 n) ih σ x1 x2 h
noncomputable def FX8_at (σ : Mem) (a1 : Int32) : Option (Int32 × Mem) :=
  if a1 < 0 then
  (some ((-1 : Int32), σ))
  else
  (bi (FX1_cells σ) fun r14 σ13 =>
  if a1 < r14 then
  (FX8_at_19 FU σ13 a1 (0 : Int32))
  else
  (some ((-1 : Int32), σ13)))
set_option maxHeartbeats 4000000 in
set_option maxRecDepth 100000 in
theorem eX8_at {X : CX} {out : Int32 × Mem} (hE : Ends X SX (some (.int out.1)) out.2) (σ : Mem) (a1 : Int32) (h : FX8_at σ a1 = some out) : J X SX mX8_at σ 0 [(0, .ref (xad X 0)), (1, .int a1)] [] := by
  refine r_iload_n 1 dX8_at_0 rfl rfl rfl ?_
  refine r_if_lt dX8_at_1 rfl rfl h (fun c h => ?_) (fun c h => ?_)
  · refine r_iconst dX8_at_15 rfl ki_m1 ?_
    exact r_iret rfl dX8_at_16 h hE
  · refine r_iload_n 1 dX8_at_4 rfl rfl rfl ?_
    refine r_aload_n 0 dX8_at_5 rfl rfl rfl ?_
    refine r_getR fg_RX8_14 rfl rfl dX8_at_6 rfl ?_
    obtain ⟨r14, σ13, hc, h⟩ := bi_of h
    refine r_callV [] [.int a1] [.int r14, .int a1]  (coX1_cells σ r14 σ13 hc) mv_RX8_132 (by decide) rfl rfl rfl rfl rfl (Nat.le_of_ble_eq_true rfl) rfl dX8_at_9 rfl ?_
    refine r_icmp_lt dX8_at_12 rfl rfl h (fun c h => ?_) (fun c h => ?_)
    · refine r_iconst dX8_at_17 rfl ki_0 ?_
      refine r_istoreV_n [(2, .int (0 : Int32)), (0, .ref (xad X 0)), (1, .int a1)] dX8_at_18 rfl rfl (show 2 < 3 by decide) rfl ?_
      refine r_sub [1, 2, 0] rfl ?_
      exact lX8_at_19 hE FU σ13 a1 (0 : Int32) h
    · refine r_iconst dX8_at_15 rfl ki_m1 ?_
      exact r_iret rfl dX8_at_16 h hE
theorem coX8_at (σ : Mem) (a1 : Int32) (r : Int32) (σ2 : Mem) (h : FX8_at σ a1 = some (r, σ2)) : Con SX 4 yX8_at cX8_at 3 (some .int) (fun ad => [.ref (ad 0), .int a1]) σ (fun _ => some (.int r)) σ2 :=
  con_of (by decide +kernel) (fun _ => Nat.le_of_ble_eq_true rfl) (fun X hE => eX8_at (out := (r, σ2)) hE σ a1 h)
-- IceYard back
abbrev mX8_back : MD := (cX8_back, RX8, 2, (some .int), 1)
noncomputable def FX8_back (σ : Mem) (a1 : Int32) : Option (Int32 × Mem) :=
  if a1 < 0 then
  (some ((-1 : Int32), σ))
  else
  (if a1 < (3 : Int32) then
  (rd a1 3 fun j5 =>
  if (lg_cmp (σ.2 17 j5) (-1 : Int64)) = 0 then
  (some ((-3 : Int32), σ))
  else
  (rd a1 3 fun j6 =>
  nm (setL σ 0 9 (σ.2 17 j6)) fun σ7 =>
  nm (setI σ7 0 10 (0 : Int32)) fun σ8 =>
  some ((1 : Int32), σ8)))
  else
  (some ((-1 : Int32), σ)))
set_option maxHeartbeats 4000000 in
set_option maxRecDepth 100000 in
theorem eX8_back {X : CX} {out : Int32 × Mem} (hE : Ends X SX (some (.int out.1)) out.2) (σ : Mem) (a1 : Int32) (h : FX8_back σ a1 = some out) : J X SX mX8_back σ 0 [(0, .ref (xad X 0)), (1, .int a1)] [] := by
  refine r_iload_n 1 dX8_back_0 rfl rfl rfl ?_
  refine r_if_lt dX8_back_1 rfl rfl h (fun c h => ?_) (fun c h => ?_)
  · refine r_iconst dX8_back_13 rfl ki_m1 ?_
    exact r_iret rfl dX8_back_14 h hE
  · refine r_iload_n 1 dX8_back_4 rfl rfl rfl ?_
    refine r_aload_n 0 dX8_back_5 rfl rfl rfl ?_
    refine r_getR fg_RX8_70 rfl rfl dX8_back_6 rfl ?_
    refine r_alen rfl (by decide) rfl dX8_back_9 rfl ?_
    refine r_icmp_lt dX8_back_10 rfl rfl h (fun c h => ?_) (fun c h => ?_)
    · refine r_aload_n 0 dX8_back_15 rfl rfl rfl ?_
      refine r_getR fg_RX8_70 rfl rfl dX8_back_16 rfl ?_
      refine r_iload_n 1 dX8_back_19 rfl rfl rfl ?_
      refine r_lald rfl dX8_back_20 rfl h (fun j5 h => ?_)
      refine r_ldc2 dX8_back_21 rfl cl_RX8_68 ?_
      refine r_lcmp dX8_back_24 rfl ?_
      refine r_if_ne dX8_back_25 rfl rfl h (fun c h => ?_) (fun c h => ?_)
      · refine r_aload_n 0 dX8_back_31 rfl rfl rfl ?_
        refine r_aload_n 0 dX8_back_32 rfl rfl rfl ?_
        refine r_getR fg_RX8_70 rfl rfl dX8_back_33 rfl ?_
        refine r_iload_n 1 dX8_back_36 rfl rfl rfl ?_
        refine r_lald rfl dX8_back_37 rfl h (fun j6 h => ?_)
        refine r_putL fp_RX8_119 rfl rfl dX8_back_38 rfl h (fun σ7 h => ?_)
        refine r_aload_n 0 dX8_back_41 rfl rfl rfl ?_
        refine r_iconst dX8_back_42 rfl ki_0 ?_
        refine r_putI fp_RX8_123 rfl rfl dX8_back_43 rfl h (fun σ8 h => ?_)
        refine r_iconst dX8_back_46 rfl ki_1 ?_
        exact r_iret rfl dX8_back_47 h hE
      · refine r_bipush dX8_back_28 rfl kb_m3 ?_
        exact r_iret rfl dX8_back_30 h hE
    · refine r_iconst dX8_back_13 rfl ki_m1 ?_
      exact r_iret rfl dX8_back_14 h hE
theorem coX8_back (σ : Mem) (a1 : Int32) (r : Int32) (σ2 : Mem) (h : FX8_back σ a1 = some (r, σ2)) : Con SX 1 yX8_back cX8_back 2 (some .int) (fun ad => [.ref (ad 0), .int a1]) σ (fun _ => some (.int r)) σ2 :=
  con_of (by decide +kernel) (fun _ => Nat.le_of_ble_eq_true rfl) (fun X hE => eX8_back (out := (r, σ2)) hE σ a1 h)
-- IceYard isLane
abbrev mX8_isLane : MD := (cX8_isLane, RX8, 1, (some .boolean), 1)
noncomputable def FX8_isLane (σ : Mem) (a0 : Int32) : Option (Int32 × Mem) :=
  if a0 < 0 then
  (rz (0 : Int32) σ)
  else
  (if (3 : Int32) ≤ a0 then
  (rz (0 : Int32) σ)
  else
  (rz (1 : Int32) σ))
set_option maxHeartbeats 4000000 in
set_option maxRecDepth 100000 in
theorem eX8_isLane {X : CX} {out : Int32 × Mem} (hE : Ends X SX (some (.int out.1)) out.2) (σ : Mem) (a0 : Int32) (h : FX8_isLane σ a0 = some out) : J X SX mX8_isLane σ 0 [(0, .int a0)] [] := by
  refine r_iload_n 0 dX8_isLane_0 rfl rfl rfl ?_
  refine r_if_lt dX8_isLane_1 rfl rfl h (fun c h => ?_) (fun c h => ?_)
  · refine r_iconst dX8_isLane_13 rfl ki_0 ?_
    exact r_zret rfl dX8_isLane_14 h hE
  · refine r_iload_n 0 dX8_isLane_4 rfl rfl rfl ?_
    refine r_iconst dX8_isLane_5 rfl ki_3 ?_
    refine r_icmp_ge dX8_isLane_6 rfl rfl h (fun c h => ?_) (fun c h => ?_)
    · refine r_iconst dX8_isLane_13 rfl ki_0 ?_
      exact r_zret rfl dX8_isLane_14 h hE
    · refine r_iconst dX8_isLane_9 rfl ki_1 ?_
      refine r_goto dX8_isLane_10 rfl ?_
      exact r_zret rfl dX8_isLane_14 h hE
theorem coX8_isLane (σ : Mem) (a0 : Int32) (r : Int32) (σ2 : Mem) (h : FX8_isLane σ a0 = some (r, σ2)) : Con SX 1 yX8_isLane cX8_isLane 1 (some .boolean) (fun ad => [.int a0]) σ (fun _ => some (.int r)) σ2 :=
  con_of (by decide +kernel) (fun _ => Nat.le_of_ble_eq_true rfl) (fun X hE => eX8_isLane (out := (r, σ2)) hE σ a0 h)
-- IceYard sheetAt
abbrev mX8_sheetAt : MD := (cX8_sheetAt, RX8, 2, (some (.object "IceYard$Sheet")), 1)
noncomputable def FX8_sheetAt (σ : Mem) (a1 : Int32) : Option (Option Nat × Mem) :=
  if a1 < 0 then
  (some (none, σ))
  else
  (if a1 < (4 : Int32) then
  (rd a1 4 fun j2 =>
  some (some (7 + j2), σ))
  else
  (some (none, σ)))
set_option maxHeartbeats 4000000 in
set_option maxRecDepth 100000 in
theorem eX8_sheetAt {X : CX} {out : Option Nat × Mem} (hE : Ends X SX (some (ov (xad X) out.1)) out.2) (σ : Mem) (a1 : Int32) (h : FX8_sheetAt σ a1 = some out) : J X SX mX8_sheetAt σ 0 [(0, .ref (xad X 0)), (1, .int a1)] [] := by
  refine r_iload_n 1 dX8_sheetAt_0 rfl rfl rfl ?_
  refine r_if_lt dX8_sheetAt_1 rfl rfl h (fun c h => ?_) (fun c h => ?_)
  · refine r_null dX8_sheetAt_13 rfl ?_
    refine r_goto dX8_sheetAt_14 rfl ?_
    exact r_aretN rfl dX8_sheetAt_23 h hE
  · refine r_iload_n 1 dX8_sheetAt_4 rfl rfl rfl ?_
    refine r_aload_n 0 dX8_sheetAt_5 rfl rfl rfl ?_
    refine r_getR fg_RX8_60 rfl rfl dX8_sheetAt_6 rfl ?_
    refine r_alen rfl (by decide) rfl dX8_sheetAt_9 rfl ?_
    refine r_icmp_lt dX8_sheetAt_10 rfl rfl h (fun c h => ?_) (fun c h => ?_)
    · refine r_aload_n 0 dX8_sheetAt_17 rfl rfl rfl ?_
      refine r_getR fg_RX8_60 rfl rfl dX8_sheetAt_18 rfl ?_
      refine r_iload_n 1 dX8_sheetAt_21 rfl rfl rfl ?_
      refine r_aald rfl sx_sheets dX8_sheetAt_22 rfl h (fun j2 hj h => ?_)
      exact r_aret rfl dX8_sheetAt_23 h hE
    · refine r_null dX8_sheetAt_13 rfl ?_
      refine r_goto dX8_sheetAt_14 rfl ?_
      exact r_aretN rfl dX8_sheetAt_23 h hE
theorem coX8_sheetAt (σ : Mem) (a1 : Int32) (r : Option Nat) (σ2 : Mem) (h : FX8_sheetAt σ a1 = some (r, σ2)) : Con SX 1 yX8_sheetAt cX8_sheetAt 2 (some (.object "IceYard$Sheet")) (fun ad => [.ref (ad 0), .int a1]) σ (fun ad => some (ov ad r)) σ2 :=
  con_of (by decide +kernel) (fun _ => Nat.le_of_ble_eq_true rfl) (fun X hE => eX8_sheetAt (out := (r, σ2)) hE σ a1 h)
-- IceYard$Sheet hasNothing
abbrev mX5_hasNothing : MD := (cX5_hasNothing, RX5, 1, (some .boolean), 1)
noncomputable def FX5_hasNothing (o : Nat) (σ : Mem) : Option (Int32 × Mem) :=
  if (σ.1 o 1) = (-1 : Int32) then
  (rz (1 : Int32) σ)
  else
  (rz (0 : Int32) σ)
set_option maxHeartbeats 4000000 in
set_option maxRecDepth 100000 in
theorem eX5_hasNothing {X : CX} {out : Int32 × Mem} (o : Nat) (ho : shOk o) (hE : Ends X SX (some (.int out.1)) out.2) (σ : Mem) (h : FX5_hasNothing o σ = some out) : J X SX mX5_hasNothing σ 0 [(0, .ref (xad X o))] [] := by
  refine r_aload_n 0 dX5_hasNothing_0 rfl rfl rfl ?_
  refine r_getI fg_RX5_15 (sx_obj ho) rfl dX5_hasNothing_1 rfl ?_
  refine r_iconst dX5_hasNothing_4 rfl ki_m1 ?_
  refine r_icmp_ne dX5_hasNothing_5 rfl rfl h (fun c h => ?_) (fun c h => ?_)
  · refine r_iconst dX5_hasNothing_12 rfl ki_0 ?_
    exact r_zret rfl dX5_hasNothing_13 h hE
  · refine r_iconst dX5_hasNothing_8 rfl ki_1 ?_
    refine r_goto dX5_hasNothing_9 rfl ?_
    exact r_zret rfl dX5_hasNothing_13 h hE
theorem coX5_hasNothing (o : Nat) (ho : shOk o) (σ : Mem) (r : Int32) (σ2 : Mem) (h : FX5_hasNothing o σ = some (r, σ2)) : Con SX 1 yX5_hasNothing cX5_hasNothing 1 (some .boolean) (fun ad => [.ref (ad o)]) σ (fun _ => some (.int r)) σ2 :=
  con_of (by decide +kernel) (fun _ => Nat.le_of_ble_eq_true rfl) (fun X hE => eX5_hasNothing o ho (out := (r, σ2)) hE σ h)
-- IceYard$Sheet faultTakenAs
abbrev mX5_faultTakenAs : MD := (cX5_faultTakenAs, RX5, 2, (some .int), 2)
noncomputable def FX5_faultTakenAs (o : Nat) (σ : Mem) (a1 : Int32) : Option (Int32 × Mem) :=
  bi (FX5_hasNothing o σ) fun r4 σ3 =>
  if r4 = 0 then
  (if (σ3.1 o 1) = a1 then
  (some ((0 : Int32), σ3))
  else
  (some ((2 : Int32), σ3)))
  else
  (some ((1 : Int32), σ3))
set_option maxHeartbeats 4000000 in
set_option maxRecDepth 100000 in
theorem eX5_faultTakenAs {X : CX} {out : Int32 × Mem} (o : Nat) (ho : shOk o) (hE : Ends X SX (some (.int out.1)) out.2) (σ : Mem) (a1 : Int32) (h : FX5_faultTakenAs o σ a1 = some out) : J X SX mX5_faultTakenAs σ 0 [(0, .ref (xad X o)), (1, .int a1)] [] := by
  refine r_aload_n 0 dX5_faultTakenAs_0 rfl rfl rfl ?_
  obtain ⟨r4, σ3, hc, h⟩ := bi_of h
  refine r_callV [] [] [.int r4]  (coX5_hasNothing o ho σ r4 σ3 hc) mv_RX5_28 (by decide) (sx_obj ho) rfl rfl rfl rfl (Nat.le_of_ble_eq_true rfl) rfl dX5_faultTakenAs_1 rfl ?_
  refine r_if_eq dX5_faultTakenAs_4 rfl rfl h (fun c h => ?_) (fun c h => ?_)
  · refine r_aload_n 0 dX5_faultTakenAs_9 rfl rfl rfl ?_
    refine r_getI fg_RX5_15 (sx_obj ho) rfl dX5_faultTakenAs_10 rfl ?_
    refine r_iload_n 1 dX5_faultTakenAs_13 rfl rfl rfl ?_
    refine r_icmp_ne dX5_faultTakenAs_14 rfl rfl h (fun c h => ?_) (fun c h => ?_)
    · refine r_iconst dX5_faultTakenAs_21 rfl ki_2 ?_
      exact r_iret rfl dX5_faultTakenAs_22 h hE
    · refine r_iconst dX5_faultTakenAs_17 rfl ki_0 ?_
      refine r_goto dX5_faultTakenAs_18 rfl ?_
      exact r_iret rfl dX5_faultTakenAs_22 h hE
  · refine r_iconst dX5_faultTakenAs_7 rfl ki_1 ?_
    exact r_iret rfl dX5_faultTakenAs_8 h hE
theorem coX5_faultTakenAs (o : Nat) (ho : shOk o) (σ : Mem) (a1 : Int32) (r : Int32) (σ2 : Mem) (h : FX5_faultTakenAs o σ a1 = some (r, σ2)) : Con SX 2 yX5_faultTakenAs cX5_faultTakenAs 2 (some .int) (fun ad => [.ref (ad o), .int a1]) σ (fun _ => some (.int r)) σ2 :=
  con_of (by decide +kernel) (fun _ => Nat.le_of_ble_eq_true rfl) (fun X hE => eX5_faultTakenAs o ho (out := (r, σ2)) hE σ a1 h)
-- IceYard$Sheet hasCell
abbrev mX5_hasCell : MD := (cX5_hasCell, RX5, 2, (some .boolean), 1)
noncomputable def FX5_hasCell (o : Nat) (σ : Mem) (a1 : Int32) : Option (Int32 × Mem) :=
  if a1 < 0 then
  (rz (0 : Int32) σ)
  else
  (if (σ.1 o 2) ≤ a1 then
  (rz (0 : Int32) σ)
  else
  (if (60 : Int32) ≤ a1 then
  (rz (0 : Int32) σ)
  else
  (rz (1 : Int32) σ)))
set_option maxHeartbeats 4000000 in
set_option maxRecDepth 100000 in
theorem eX5_hasCell {X : CX} {out : Int32 × Mem} (o : Nat) (ho : shOk o) (hE : Ends X SX (some (.int out.1)) out.2) (σ : Mem) (a1 : Int32) (h : FX5_hasCell o σ a1 = some out) : J X SX mX5_hasCell σ 0 [(0, .ref (xad X o)), (1, .int a1)] [] := by
  refine r_iload_n 1 dX5_hasCell_0 rfl rfl rfl ?_
  refine r_if_lt dX5_hasCell_1 rfl rfl h (fun c h => ?_) (fun c h => ?_)
  · refine r_iconst dX5_hasCell_22 rfl ki_0 ?_
    exact r_zret rfl dX5_hasCell_23 h hE
  · refine r_iload_n 1 dX5_hasCell_4 rfl rfl rfl ?_
    refine r_aload_n 0 dX5_hasCell_5 rfl rfl rfl ?_
    refine r_getI fg_RX5_19 (sx_obj ho) rfl dX5_hasCell_6 rfl ?_
    refine r_icmp_ge dX5_hasCell_9 rfl rfl h (fun c h => ?_) (fun c h => ?_)
    · refine r_iconst dX5_hasCell_22 rfl ki_0 ?_
      exact r_zret rfl dX5_hasCell_23 h hE
    · refine r_iload_n 1 dX5_hasCell_12 rfl rfl rfl ?_
      refine r_bipush dX5_hasCell_13 rfl kb_60 ?_
      refine r_icmp_ge dX5_hasCell_15 rfl rfl h (fun c h => ?_) (fun c h => ?_)
      · refine r_iconst dX5_hasCell_22 rfl ki_0 ?_
        exact r_zret rfl dX5_hasCell_23 h hE
      · refine r_iconst dX5_hasCell_18 rfl ki_1 ?_
        refine r_goto dX5_hasCell_19 rfl ?_
        exact r_zret rfl dX5_hasCell_23 h hE
theorem coX5_hasCell (o : Nat) (ho : shOk o) (σ : Mem) (a1 : Int32) (r : Int32) (σ2 : Mem) (h : FX5_hasCell o σ a1 = some (r, σ2)) : Con SX 1 yX5_hasCell cX5_hasCell 2 (some .boolean) (fun ad => [.ref (ad o), .int a1]) σ (fun _ => some (.int r)) σ2 :=
  con_of (by decide +kernel) (fun _ => Nat.le_of_ble_eq_true rfl) (fun X hE => eX5_hasCell o ho (out := (r, σ2)) hE σ a1 h)
-- IceYard$Sheet read
abbrev mX5_read : MD := (cX5_read, RX5, 2, (some .int), 2)
noncomputable def FX5_read (o : Nat) (σ : Mem) (a1 : Int32) : Option (Int32 × Mem) :=
  bi (FX5_hasCell o σ a1) fun r5 σ4 =>
  if r5 = 0 then
  (some ((0 : Int32), σ4))
  else
  (rd a1 60 fun j6 =>
  some ((σ4.1 (o + 4) j6), σ4))
set_option maxHeartbeats 4000000 in
set_option maxRecDepth 100000 in
theorem eX5_read {X : CX} {out : Int32 × Mem} (o : Nat) (ho : shOk o) (hE : Ends X SX (some (.int out.1)) out.2) (σ : Mem) (a1 : Int32) (h : FX5_read o σ a1 = some out) : J X SX mX5_read σ 0 [(0, .ref (xad X o)), (1, .int a1)] [] := by
  refine r_aload_n 0 dX5_read_0 rfl rfl rfl ?_
  refine r_iload_n 1 dX5_read_1 rfl rfl rfl ?_
  obtain ⟨r5, σ4, hc, h⟩ := bi_of h
  refine r_callV [.int a1] [] [.int r5]  (coX5_hasCell o ho σ a1 r5 σ4 hc) mv_RX5_32 (by decide) (sx_obj ho) rfl rfl rfl rfl (Nat.le_of_ble_eq_true rfl) rfl dX5_read_2 rfl ?_
  refine r_if_eq dX5_read_5 rfl rfl h (fun c h => ?_) (fun c h => ?_)
  · refine r_iconst dX5_read_17 rfl ki_0 ?_
    exact r_iret rfl dX5_read_18 h hE
  · refine r_aload_n 0 dX5_read_8 rfl rfl rfl ?_
    refine r_getR fg_RX5_11 (sx_obj ho) rfl dX5_read_9 rfl ?_
    refine r_iload_n 1 dX5_read_12 rfl rfl rfl ?_
    refine r_iald (sx_arr ho) dX5_read_13 rfl h (fun j6 h => ?_)
    refine r_goto dX5_read_14 rfl ?_
    exact r_iret rfl dX5_read_18 h hE
theorem coX5_read (o : Nat) (ho : shOk o) (σ : Mem) (a1 : Int32) (r : Int32) (σ2 : Mem) (h : FX5_read o σ a1 = some (r, σ2)) : Con SX 2 yX5_read cX5_read 2 (some .int) (fun ad => [.ref (ad o), .int a1]) σ (fun _ => some (.int r)) σ2 :=
  con_of (by decide +kernel) (fun _ => Nat.le_of_ble_eq_true rfl) (fun X hE => eX5_read o ho (out := (r, σ2)) hE σ a1 h)
-- IceYard cell
abbrev mX8_cell : MD := (cX8_cell, RX8, 6, (some .long), 3)
noncomputable def FX8_cell_53 (σ : Mem) (x2 : Int32) (o4 : Nat) (x5 : Int32) : Option (Int64 × Mem) :=
  if x5 = 0 then
  (bi (FX5_read o4 σ x2) fun r16 σ15 =>
  some (((r16).toInt64), σ15))
  else
  (bi (FX8_faulty σ x5) fun r18 σ17 =>
  some ((-9223372036854775808 : Int64), σ17))
set_option maxHeartbeats 4000000 in
set_option maxRecDepth 100000 in
theorem jX8_cell_53 {X : CX} {out : Int64 × Mem} (hE : Ends X SX (some (.long out.1)) out.2) (σ : Mem) (x2 : Int32) (o4 : Nat) (x5 : Int32) (ho4 : shOk o4) (h : FX8_cell_53 σ x2 o4 x5 = some out) : J X SX mX8_cell σ 53 [(0, .ref (xad X 0)), (2, .int x2), (4, .ref (xad X o4)), (5, .int x5)] [] := by
  refine r_iload 3 dX8_cell_53 rfl rfl ?_
  refine r_if_eq dX8_cell_55 rfl rfl h (fun c h => ?_) (fun c h => ?_)
  · refine r_aload 2 dX8_cell_69 rfl rfl ?_
    refine r_iload_n 1 dX8_cell_71 rfl rfl rfl ?_
    obtain ⟨r16, σ15, hc, h⟩ := bi_of h
    refine r_callV [.int x2] [] [.int r16]  (coX5_read o4 ho4 σ x2 r16 σ15 hc) mv_RX8_224 (by decide) (sx_obj ho4) rfl rfl rfl rfl (Nat.le_of_ble_eq_true rfl) rfl dX8_cell_72 rfl ?_
    refine r_i2l dX8_cell_75 rfl ?_
    exact r_lret rfl dX8_cell_76 h hE
  · refine r_aload_n 0 dX8_cell_58 rfl rfl rfl ?_
    refine r_iload 3 dX8_cell_59 rfl rfl ?_
    obtain ⟨r18, σ17, hc, h⟩ := bi_of h
    refine r_callV [.int x5] [] [.int r18]  (coX8_faulty σ x5 r18 σ17 hc) mv_RX8_93 (by decide) rfl rfl rfl rfl rfl (Nat.le_of_ble_eq_true rfl) rfl dX8_cell_61 rfl ?_
    refine r_pop dX8_cell_64 rfl rfl ?_
    refine r_ldc2 dX8_cell_65 rfl cl_RX8_160 ?_
    exact r_lret rfl dX8_cell_68 h hE
noncomputable def FX8_cell (σ : Mem) (a1 : Int32) (a2 : Int32) (a3 : Int32) : Option (Int64 × Mem) :=
  nm (setI σ 0 12 (0 : Int32)) fun σ19 =>
  bi (FX8_sheetAt σ19 a1) fun v21 σ20 =>
  sh v21 (some ((-9223372036854775808 : Int64), σ20)) fun o_22 =>
  bi (FX8_isLane σ20 a3) fun r24 σ23 =>
  if r24 = 0 then
  (some ((-9223372036854775808 : Int64), σ23))
  else
  (bi (FX5_faultTakenAs o_22 σ23 a3) fun r26 σ25 =>
  if r26 = 0 then
  (bi (FX5_hasCell o_22 σ25 a2) fun r28 σ27 =>
  if r28 = 0 then
  (FX8_cell_53 σ27 a2 o_22 (3 : Int32))
  else
  (FX8_cell_53 σ27 a2 o_22 r26))
  else
  (FX8_cell_53 σ25 a2 o_22 r26))
set_option maxHeartbeats 4000000 in
set_option maxRecDepth 100000 in
theorem eX8_cell {X : CX} {out : Int64 × Mem} (hE : Ends X SX (some (.long out.1)) out.2) (σ : Mem) (a1 : Int32) (a2 : Int32) (a3 : Int32) (h : FX8_cell σ a1 a2 a3 = some out) : J X SX mX8_cell σ 0 [(0, .ref (xad X 0)), (1, .int a1), (2, .int a2), (3, .int a3)] [] := by
  refine r_aload_n 0 dX8_cell_0 rfl rfl rfl ?_
  refine r_iconst dX8_cell_1 rfl ki_0 ?_
  refine r_putI fp_RX8_73 rfl rfl dX8_cell_2 rfl h (fun σ19 h => ?_)
  refine r_aload_n 0 dX8_cell_5 rfl rfl rfl ?_
  refine r_iload_n 1 dX8_cell_6 rfl rfl rfl ?_
  obtain ⟨v21, σ20, hc, h⟩ := bi_of h
  rcases sh_of h with ⟨hv, h⟩ | ⟨o_22, hv, ho_22, h⟩
  · rw [hv] at hc
    refine r_callV [.int a1] [] [.null]  (coX8_sheetAt σ19 a1 none σ20 hc) mv_RX8_77 (by decide) rfl rfl rfl rfl rfl (Nat.le_of_ble_eq_true rfl) rfl dX8_cell_7 rfl ?_
    refine r_astoreN [(4, .null), (0, .ref (xad X 0)), (1, .int a1), (2, .int a2), (3, .int a3)] dX8_cell_10 rfl (show 4 < 6 by decide) rfl ?_
    refine r_aloadN 0 dX8_cell_12 rfl rfl ?_
    refine r_ifnullN dX8_cell_14 rfl ?_
    refine r_ldc2 dX8_cell_24 rfl cl_RX8_160 ?_
    exact r_lret rfl dX8_cell_27 h hE
  · rw [hv] at hc
    refine r_callV [.int a1] [] [.ref (xad X o_22)]  (coX8_sheetAt σ19 a1 (some o_22) σ20 hc) mv_RX8_77 (by decide) rfl rfl rfl rfl rfl (Nat.le_of_ble_eq_true rfl) rfl dX8_cell_7 rfl ?_
    refine r_astore [(4, .ref (xad X o_22)), (0, .ref (xad X 0)), (1, .int a1), (2, .int a2), (3, .int a3)] dX8_cell_10 rfl (show 4 < 6 by decide) rfl ?_
    refine r_aload 0 dX8_cell_12 rfl rfl ?_
    refine r_ifnull dX8_cell_14 rfl ?_
    refine r_iload_n 4 dX8_cell_17 rfl rfl rfl ?_
    obtain ⟨r24, σ23, hc, h⟩ := bi_of h
    refine r_callS [] [.int r24]  (coX8_isLane σ20 a3 r24 σ23 hc) ms_RX8_81 (by decide) rfl rfl (Nat.le_of_ble_eq_true rfl) rfl dX8_cell_18 rfl ?_
    refine r_if_ne dX8_cell_21 rfl rfl h (fun c h => ?_) (fun c h => ?_)
    · refine r_aload 0 dX8_cell_28 rfl rfl ?_
      refine r_iload_n 4 dX8_cell_30 rfl rfl rfl ?_
      obtain ⟨r26, σ25, hc, h⟩ := bi_of h
      refine r_callV [.int a3] [] [.int r26]  (coX5_faultTakenAs o_22 ho_22 σ23 a3 r26 σ25 hc) mv_RX8_85 (by decide) (sx_obj ho_22) rfl rfl rfl rfl (Nat.le_of_ble_eq_true rfl) rfl dX8_cell_31 rfl ?_
      refine r_istoreV [(5, .int r26), (4, .ref (xad X o_22)), (0, .ref (xad X 0)), (1, .int a1), (2, .int a2), (3, .int a3)] dX8_cell_34 rfl (show 5 < 6 by decide) rfl ?_
      refine r_iload 0 dX8_cell_36 rfl rfl ?_
      refine r_if_ne dX8_cell_38 rfl rfl h (fun c h => ?_) (fun c h => ?_)
      · refine r_sub [2, 4, 1, 0] rfl ?_
        exact jX8_cell_53 hE σ25 a2 o_22 r26 ho_22 h
      · refine r_aload 1 dX8_cell_41 rfl rfl ?_
        refine r_iload_n 4 dX8_cell_43 rfl rfl rfl ?_
        obtain ⟨r28, σ27, hc, h⟩ := bi_of h
        refine r_callV [.int a2] [] [.int r28]  (coX5_hasCell o_22 ho_22 σ25 a2 r28 σ27 hc) mv_RX8_218 (by decide) (sx_obj ho_22) rfl rfl rfl rfl (Nat.le_of_ble_eq_true rfl) rfl dX8_cell_44 rfl ?_
        refine r_if_ne dX8_cell_47 rfl rfl h (fun c h => ?_) (fun c h => ?_)
        · refine r_sub [2, 4, 1, 0] rfl ?_
          exact jX8_cell_53 hE σ27 a2 o_22 r26 ho_22 h
        · refine r_iconst dX8_cell_50 rfl ki_3 ?_
          refine r_istoreV [(5, .int (3 : Int32)), (4, .ref (xad X o_22)), (0, .ref (xad X 0)), (1, .int a1), (2, .int a2), (3, .int a3)] dX8_cell_51 rfl (show 5 < 6 by decide) rfl ?_
          refine r_sub [2, 4, 1, 0] rfl ?_
          exact jX8_cell_53 hE σ27 a2 o_22 (3 : Int32) ho_22 h
    · refine r_ldc2 dX8_cell_24 rfl cl_RX8_160 ?_
      exact r_lret rfl dX8_cell_27 h hE
theorem coX8_cell (σ : Mem) (a1 : Int32) (a2 : Int32) (a3 : Int32) (r : Int64) (σ2 : Mem) (h : FX8_cell σ a1 a2 a3 = some (r, σ2)) : Con SX 3 yX8_cell cX8_cell 6 (some .long) (fun ad => [.ref (ad 0), .int a1, .int a2, .int a3]) σ (fun _ => some (.long r)) σ2 :=
  con_of (by decide +kernel) (fun _ => Nat.le_of_ble_eq_true rfl) (fun X hE => eX8_cell (out := (r, σ2)) hE σ a1 a2 a3 h)
-- IceYard$Sheet hasCells
abbrev mX5_hasCells : MD := (cX5_hasCells, RX5, 3, (some .boolean), 1)
noncomputable def FX5_hasCells (o : Nat) (σ : Mem) (a1 : Int32) (a2 : Int32) : Option (Int32 × Mem) :=
  if a1 < 0 then
  (rz (0 : Int32) σ)
  else
  (if a2 < 0 then
  (rz (0 : Int32) σ)
  else
  (if (σ.1 o 2) < a1 then
  (rz (0 : Int32) σ)
  else
  (if ((σ.1 o 2) - a1) < a2 then
  (rz (0 : Int32) σ)
  else
  (rz (1 : Int32) σ))))
set_option maxHeartbeats 4000000 in
set_option maxRecDepth 100000 in
theorem eX5_hasCells {X : CX} {out : Int32 × Mem} (o : Nat) (ho : shOk o) (hE : Ends X SX (some (.int out.1)) out.2) (σ : Mem) (a1 : Int32) (a2 : Int32) (h : FX5_hasCells o σ a1 a2 = some out) : J X SX mX5_hasCells σ 0 [(0, .ref (xad X o)), (1, .int a1), (2, .int a2)] [] := by
  refine r_iload_n 1 dX5_hasCells_0 rfl rfl rfl ?_
  refine r_if_lt dX5_hasCells_1 rfl rfl h (fun c h => ?_) (fun c h => ?_)
  · refine r_iconst dX5_hasCells_30 rfl ki_0 ?_
    exact r_zret rfl dX5_hasCells_31 h hE
  · refine r_iload_n 2 dX5_hasCells_4 rfl rfl rfl ?_
    refine r_if_lt dX5_hasCells_5 rfl rfl h (fun c h => ?_) (fun c h => ?_)
    · refine r_iconst dX5_hasCells_30 rfl ki_0 ?_
      exact r_zret rfl dX5_hasCells_31 h hE
    · refine r_iload_n 1 dX5_hasCells_8 rfl rfl rfl ?_
      refine r_aload_n 0 dX5_hasCells_9 rfl rfl rfl ?_
      refine r_getI fg_RX5_19 (sx_obj ho) rfl dX5_hasCells_10 rfl ?_
      refine r_icmp_gt dX5_hasCells_13 rfl rfl h (fun c h => ?_) (fun c h => ?_)
      · refine r_iconst dX5_hasCells_30 rfl ki_0 ?_
        exact r_zret rfl dX5_hasCells_31 h hE
      · refine r_iload_n 2 dX5_hasCells_16 rfl rfl rfl ?_
        refine r_aload_n 0 dX5_hasCells_17 rfl rfl rfl ?_
        refine r_getI fg_RX5_19 (sx_obj ho) rfl dX5_hasCells_18 rfl ?_
        refine r_iload_n 1 dX5_hasCells_21 rfl rfl rfl ?_
        refine r_isub dX5_hasCells_22 rfl ?_
        refine r_icmp_gt dX5_hasCells_23 rfl rfl h (fun c h => ?_) (fun c h => ?_)
        · refine r_iconst dX5_hasCells_30 rfl ki_0 ?_
          exact r_zret rfl dX5_hasCells_31 h hE
        · refine r_iconst dX5_hasCells_26 rfl ki_1 ?_
          refine r_goto dX5_hasCells_27 rfl ?_
          exact r_zret rfl dX5_hasCells_31 h hE
theorem coX5_hasCells (o : Nat) (ho : shOk o) (σ : Mem) (a1 : Int32) (a2 : Int32) (r : Int32) (σ2 : Mem) (h : FX5_hasCells o σ a1 a2 = some (r, σ2)) : Con SX 1 yX5_hasCells cX5_hasCells 3 (some .boolean) (fun ad => [.ref (ad o), .int a1, .int a2]) σ (fun _ => some (.int r)) σ2 :=
  con_of (by decide +kernel) (fun _ => Nat.le_of_ble_eq_true rfl) (fun X hE => eX5_hasCells o ho (out := (r, σ2)) hE σ a1 a2 h)
-- IceYard copy
abbrev mX8_copy : MD := (cX8_copy, RX8, 8, (some .int), 2)
noncomputable def FX8_copy (σ : Mem) (a1 : Int32) (a2 : Int32) (a3 : Int32) (a4 : Int32) (a5 : Int32) : Option (Int32 × Mem) :=
  nm (setI σ 0 12 (0 : Int32)) fun σ30 =>
  bi (FX8_sheetAt σ30 a1) fun v32 σ31 =>
  sh v32 (bi (FX8_sheetAt σ31 a3) fun v35 σ34 =>
  sh v35 (some ((-1 : Int32), σ34)) fun o_36 =>
  some ((-1 : Int32), σ34)) fun o_33 =>
  bi (FX8_sheetAt σ31 a3) fun v38 σ37 =>
  sh v38 (some ((-1 : Int32), σ37)) fun o_39 =>
  bi (FX5_hasNothing o_33 σ37) fun r41 σ40 =>
  if r41 = 0 then
  (bi (FX5_hasNothing o_39 σ40) fun r45 σ44 =>
  if r45 = 0 then
  (if (σ44.1 o_33 1) = (σ44.1 o_39 1) then
  (bi (FX5_hasCells o_33 σ44 a2 a5) fun r47 σ46 =>
  if r47 = 0 then
  (bi (FX8_faulty σ46 (3 : Int32)) fun r49 σ48 =>
  some (r49, σ48))
  else
  (bi (FX5_hasCells o_39 σ46 a4 a5) fun r51 σ50 =>
  if r51 = 0 then
  (bi (FX8_faulty σ50 (3 : Int32)) fun r54 σ53 =>
  some (r54, σ53))
  else
  (cpA σ50 (o_33 + 4) (o_39 + 4) 60 60 a2 a4 a5 fun σ52 =>
  some (a5, σ52))))
  else
  (bi (FX8_faulty σ44 (2 : Int32)) fun r56 σ55 =>
  some (r56, σ55)))
  else
  (bi (FX8_faulty σ44 (1 : Int32)) fun r58 σ57 =>
  some (r58, σ57)))
  else
  (bi (FX8_faulty σ40 (1 : Int32)) fun r43 σ42 =>
  some (r43, σ42))
set_option maxHeartbeats 4000000 in
set_option maxRecDepth 100000 in
theorem eX8_copy {X : CX} {out : Int32 × Mem} (hE : Ends X SX (some (.int out.1)) out.2) (σ : Mem) (a1 : Int32) (a2 : Int32) (a3 : Int32) (a4 : Int32) (a5 : Int32) (h : FX8_copy σ a1 a2 a3 a4 a5 = some out) : J X SX mX8_copy σ 0 [(0, .ref (xad X 0)), (1, .int a1), (2, .int a2), (3, .int a3), (4, .int a4), (5, .int a5)] [] := by
  refine r_aload_n 0 dX8_copy_0 rfl rfl rfl ?_
  refine r_iconst dX8_copy_1 rfl ki_0 ?_
  refine r_putI fp_RX8_73 rfl rfl dX8_copy_2 rfl h (fun σ30 h => ?_)
  refine r_aload_n 0 dX8_copy_5 rfl rfl rfl ?_
  refine r_iload_n 1 dX8_copy_6 rfl rfl rfl ?_
  obtain ⟨v32, σ31, hc, h⟩ := bi_of h
  rcases sh_of h with ⟨hv, h⟩ | ⟨o_33, hv, ho_33, h⟩
  · rw [hv] at hc
    refine r_callV [.int a1] [] [.null]  (coX8_sheetAt σ30 a1 none σ31 hc) mv_RX8_77 (by decide) rfl rfl rfl rfl rfl (Nat.le_of_ble_eq_true rfl) rfl dX8_copy_7 rfl ?_
    refine r_astoreN [(6, .null), (0, .ref (xad X 0)), (1, .int a1), (2, .int a2), (3, .int a3), (4, .int a4), (5, .int a5)] dX8_copy_10 rfl (show 6 < 8 by decide) rfl ?_
    refine r_aload_n 1 dX8_copy_12 rfl rfl rfl ?_
    refine r_iload_n 4 dX8_copy_13 rfl rfl rfl ?_
    obtain ⟨v35, σ34, hc, h⟩ := bi_of h
    rcases sh_of h with ⟨hv, h⟩ | ⟨o_36, hv, ho_36, h⟩
    · rw [hv] at hc
      refine r_callV [.int a3] [] [.null]  (coX8_sheetAt σ31 a3 none σ34 hc) mv_RX8_77 (by decide) rfl rfl rfl rfl rfl (Nat.le_of_ble_eq_true rfl) rfl dX8_copy_14 rfl ?_
      refine r_astoreN [(7, .null), (6, .null), (0, .ref (xad X 0)), (1, .int a1), (2, .int a2), (3, .int a3), (4, .int a4), (5, .int a5)] dX8_copy_17 rfl (show 7 < 8 by decide) rfl ?_
      refine r_aloadN 1 dX8_copy_19 rfl rfl ?_
      refine r_ifnullN dX8_copy_21 rfl ?_
      refine r_iconst dX8_copy_29 rfl ki_m1 ?_
      exact r_iret rfl dX8_copy_30 h hE
    · rw [hv] at hc
      refine r_callV [.int a3] [] [.ref (xad X o_36)]  (coX8_sheetAt σ31 a3 (some o_36) σ34 hc) mv_RX8_77 (by decide) rfl rfl rfl rfl rfl (Nat.le_of_ble_eq_true rfl) rfl dX8_copy_14 rfl ?_
      refine r_astore [(7, .ref (xad X o_36)), (6, .null), (0, .ref (xad X 0)), (1, .int a1), (2, .int a2), (3, .int a3), (4, .int a4), (5, .int a5)] dX8_copy_17 rfl (show 7 < 8 by decide) rfl ?_
      refine r_aloadN 1 dX8_copy_19 rfl rfl ?_
      refine r_ifnullN dX8_copy_21 rfl ?_
      refine r_iconst dX8_copy_29 rfl ki_m1 ?_
      exact r_iret rfl dX8_copy_30 h hE
  · rw [hv] at hc
    refine r_callV [.int a1] [] [.ref (xad X o_33)]  (coX8_sheetAt σ30 a1 (some o_33) σ31 hc) mv_RX8_77 (by decide) rfl rfl rfl rfl rfl (Nat.le_of_ble_eq_true rfl) rfl dX8_copy_7 rfl ?_
    refine r_astore [(6, .ref (xad X o_33)), (0, .ref (xad X 0)), (1, .int a1), (2, .int a2), (3, .int a3), (4, .int a4), (5, .int a5)] dX8_copy_10 rfl (show 6 < 8 by decide) rfl ?_
    refine r_aload_n 1 dX8_copy_12 rfl rfl rfl ?_
    refine r_iload_n 4 dX8_copy_13 rfl rfl rfl ?_
    obtain ⟨v38, σ37, hc, h⟩ := bi_of h
    rcases sh_of h with ⟨hv, h⟩ | ⟨o_39, hv, ho_39, h⟩
    · rw [hv] at hc
      refine r_callV [.int a3] [] [.null]  (coX8_sheetAt σ31 a3 none σ37 hc) mv_RX8_77 (by decide) rfl rfl rfl rfl rfl (Nat.le_of_ble_eq_true rfl) rfl dX8_copy_14 rfl ?_
      refine r_astoreN [(7, .null), (6, .ref (xad X o_33)), (0, .ref (xad X 0)), (1, .int a1), (2, .int a2), (3, .int a3), (4, .int a4), (5, .int a5)] dX8_copy_17 rfl (show 7 < 8 by decide) rfl ?_
      refine r_aload 1 dX8_copy_19 rfl rfl ?_
      refine r_ifnull dX8_copy_21 rfl ?_
      refine r_aloadN 0 dX8_copy_24 rfl rfl ?_
      refine r_ifnonnullN dX8_copy_26 rfl ?_
      refine r_iconst dX8_copy_29 rfl ki_m1 ?_
      exact r_iret rfl dX8_copy_30 h hE
    · rw [hv] at hc
      refine r_callV [.int a3] [] [.ref (xad X o_39)]  (coX8_sheetAt σ31 a3 (some o_39) σ37 hc) mv_RX8_77 (by decide) rfl rfl rfl rfl rfl (Nat.le_of_ble_eq_true rfl) rfl dX8_copy_14 rfl ?_
      refine r_astore [(7, .ref (xad X o_39)), (6, .ref (xad X o_33)), (0, .ref (xad X 0)), (1, .int a1), (2, .int a2), (3, .int a3), (4, .int a4), (5, .int a5)] dX8_copy_17 rfl (show 7 < 8 by decide) rfl ?_
      refine r_aload 1 dX8_copy_19 rfl rfl ?_
      refine r_ifnull dX8_copy_21 rfl ?_
      refine r_aload 0 dX8_copy_24 rfl rfl ?_
      refine r_ifnonnull dX8_copy_26 rfl ?_
      refine r_aload 1 dX8_copy_31 rfl rfl ?_
      obtain ⟨r41, σ40, hc, h⟩ := bi_of h
      refine r_callV [] [] [.int r41]  (coX5_hasNothing o_33 ho_33 σ37 r41 σ40 hc) mv_RX8_211 (by decide) (sx_obj ho_33) rfl rfl rfl rfl (Nat.le_of_ble_eq_true rfl) rfl dX8_copy_33 rfl ?_
      refine r_if_ne dX8_copy_36 rfl rfl h (fun c h => ?_) (fun c h => ?_)
      · refine r_aload_n 2 dX8_copy_47 rfl rfl rfl ?_
        refine r_iconst dX8_copy_48 rfl ki_1 ?_
        obtain ⟨r43, σ42, hc, h⟩ := bi_of h
        refine r_callV [.int (1 : Int32)] [] [.int r43]  (coX8_faulty σ40 (1 : Int32) r43 σ42 hc) mv_RX8_93 (by decide) rfl rfl rfl rfl rfl (Nat.le_of_ble_eq_true rfl) rfl dX8_copy_49 rfl ?_
        exact r_iret rfl dX8_copy_52 h hE
      · refine r_aload 0 dX8_copy_39 rfl rfl ?_
        obtain ⟨r45, σ44, hc, h⟩ := bi_of h
        refine r_callV [] [] [.int r45]  (coX5_hasNothing o_39 ho_39 σ40 r45 σ44 hc) mv_RX8_211 (by decide) (sx_obj ho_39) rfl rfl rfl rfl (Nat.le_of_ble_eq_true rfl) rfl dX8_copy_41 rfl ?_
        refine r_if_eq dX8_copy_44 rfl rfl h (fun c h => ?_) (fun c h => ?_)
        · refine r_aload 1 dX8_copy_53 rfl rfl ?_
          refine r_getI fg_RX8_227 (sx_obj ho_33) rfl dX8_copy_55 rfl ?_
          refine r_aload 0 dX8_copy_58 rfl rfl ?_
          refine r_getI fg_RX8_227 (sx_obj ho_39) rfl dX8_copy_60 rfl ?_
          refine r_icmp_eq dX8_copy_63 rfl rfl h (fun c h => ?_) (fun c h => ?_)
          · refine r_aload 1 dX8_copy_72 rfl rfl ?_
            refine r_iload_n 4 dX8_copy_74 rfl rfl rfl ?_
            refine r_iload 7 dX8_copy_75 rfl rfl ?_
            obtain ⟨r47, σ46, hc, h⟩ := bi_of h
            refine r_callV [.int a2, .int a5] [] [.int r47]  (coX5_hasCells o_33 ho_33 σ44 a2 a5 r47 σ46 hc) mv_RX8_89 (by decide) (sx_obj ho_33) rfl rfl rfl rfl (Nat.le_of_ble_eq_true rfl) rfl dX8_copy_77 rfl ?_
            refine r_if_eq dX8_copy_80 rfl rfl h (fun c h => ?_) (fun c h => ?_)
            · refine r_aload_n 2 dX8_copy_95 rfl rfl rfl ?_
              refine r_iconst dX8_copy_96 rfl ki_3 ?_
              obtain ⟨r49, σ48, hc, h⟩ := bi_of h
              refine r_callV [.int (3 : Int32)] [] [.int r49]  (coX8_faulty σ46 (3 : Int32) r49 σ48 hc) mv_RX8_93 (by decide) rfl rfl rfl rfl rfl (Nat.le_of_ble_eq_true rfl) rfl dX8_copy_97 rfl ?_
              exact r_iret rfl dX8_copy_100 h hE
            · refine r_aload 0 dX8_copy_83 rfl rfl ?_
              refine r_iload 6 dX8_copy_85 rfl rfl ?_
              refine r_iload 7 dX8_copy_87 rfl rfl ?_
              obtain ⟨r51, σ50, hc, h⟩ := bi_of h
              refine r_callV [.int a4, .int a5] [] [.int r51]  (coX5_hasCells o_39 ho_39 σ46 a4 a5 r51 σ50 hc) mv_RX8_89 (by decide) (sx_obj ho_39) rfl rfl rfl rfl (Nat.le_of_ble_eq_true rfl) rfl dX8_copy_89 rfl ?_
              refine r_if_ne dX8_copy_92 rfl rfl h (fun c h => ?_) (fun c h => ?_)
              · refine r_aload 1 dX8_copy_101 rfl rfl ?_
                refine r_getR fg_RX8_230 (sx_obj ho_33) rfl dX8_copy_103 rfl ?_
                refine r_iload_n 4 dX8_copy_106 rfl rfl rfl ?_
                refine r_aload 0 dX8_copy_107 rfl rfl ?_
                refine r_getR fg_RX8_230 (sx_obj ho_39) rfl dX8_copy_109 rfl ?_
                refine r_iload 6 dX8_copy_112 rfl rfl ?_
                refine r_iload 7 dX8_copy_114 rfl rfl ?_
                refine r_copyA ac_RX8_233 (sx_arr ho_33) (sx_arr ho_39) (show 1 ≤ 2 by decide) dX8_copy_116 rfl h (fun σ52 h => ?_)
                refine r_iload 7 dX8_copy_119 rfl rfl ?_
                exact r_iret rfl dX8_copy_121 h hE
              · refine r_aload_n 2 dX8_copy_95 rfl rfl rfl ?_
                refine r_iconst dX8_copy_96 rfl ki_3 ?_
                obtain ⟨r54, σ53, hc, h⟩ := bi_of h
                refine r_callV [.int (3 : Int32)] [] [.int r54]  (coX8_faulty σ50 (3 : Int32) r54 σ53 hc) mv_RX8_93 (by decide) rfl rfl rfl rfl rfl (Nat.le_of_ble_eq_true rfl) rfl dX8_copy_97 rfl ?_
                exact r_iret rfl dX8_copy_100 h hE
          · refine r_aload_n 2 dX8_copy_66 rfl rfl rfl ?_
            refine r_iconst dX8_copy_67 rfl ki_2 ?_
            obtain ⟨r56, σ55, hc, h⟩ := bi_of h
            refine r_callV [.int (2 : Int32)] [] [.int r56]  (coX8_faulty σ44 (2 : Int32) r56 σ55 hc) mv_RX8_93 (by decide) rfl rfl rfl rfl rfl (Nat.le_of_ble_eq_true rfl) rfl dX8_copy_68 rfl ?_
            exact r_iret rfl dX8_copy_71 h hE
        · refine r_aload_n 2 dX8_copy_47 rfl rfl rfl ?_
          refine r_iconst dX8_copy_48 rfl ki_1 ?_
          obtain ⟨r58, σ57, hc, h⟩ := bi_of h
          refine r_callV [.int (1 : Int32)] [] [.int r58]  (coX8_faulty σ44 (1 : Int32) r58 σ57 hc) mv_RX8_93 (by decide) rfl rfl rfl rfl rfl (Nat.le_of_ble_eq_true rfl) rfl dX8_copy_49 rfl ?_
          exact r_iret rfl dX8_copy_52 h hE
theorem coX8_copy (σ : Mem) (a1 : Int32) (a2 : Int32) (a3 : Int32) (a4 : Int32) (a5 : Int32) (r : Int32) (σ2 : Mem) (h : FX8_copy σ a1 a2 a3 a4 a5 = some (r, σ2)) : Con SX 2 yX8_copy cX8_copy 8 (some .int) (fun ad => [.ref (ad 0), .int a1, .int a2, .int a3, .int a4, .int a5]) σ (fun _ => some (.int r)) σ2 :=
  con_of (by decide +kernel) (fun _ => Nat.le_of_ble_eq_true rfl) (fun X hE => eX8_copy (out := (r, σ2)) hE σ a1 a2 a3 a4 a5 h)
-- IceYard fault
abbrev mX8_fault : MD := (cX8_fault, RX8, 1, (some .int), 1)
noncomputable def FX8_fault (σ : Mem) : Option (Int32 × Mem) :=
  some ((σ.1 0 12), σ)
set_option maxHeartbeats 4000000 in
set_option maxRecDepth 100000 in
theorem eX8_fault {X : CX} {out : Int32 × Mem} (hE : Ends X SX (some (.int out.1)) out.2) (σ : Mem) (h : FX8_fault σ = some out) : J X SX mX8_fault σ 0 [(0, .ref (xad X 0))] [] := by
  refine r_aload_n 0 dX8_fault_0 rfl rfl rfl ?_
  refine r_getI fg_RX8_73 rfl rfl dX8_fault_1 rfl ?_
  exact r_iret rfl dX8_fault_4 h hE
theorem coX8_fault (σ : Mem) (r : Int32) (σ2 : Mem) (h : FX8_fault σ = some (r, σ2)) : Con SX 1 yX8_fault cX8_fault 1 (some .int) (fun ad => [.ref (ad 0)]) σ (fun _ => some (.int r)) σ2 :=
  con_of (by decide +kernel) (fun _ => Nat.le_of_ble_eq_true rfl) (fun X hE => eX8_fault (out := (r, σ2)) hE σ h)
-- IceYard isGate
abbrev mX8_isGate : MD := (cX8_isGate, RX8, 1, (some .boolean), 1)
noncomputable def FX8_isGate (σ : Mem) (a0 : Int32) : Option (Int32 × Mem) :=
  if a0 = 0 then
  (rz (1 : Int32) σ)
  else
  (if a0 = (1 : Int32) then
  (rz (1 : Int32) σ)
  else
  (rz (0 : Int32) σ))
set_option maxHeartbeats 4000000 in
set_option maxRecDepth 100000 in
theorem eX8_isGate {X : CX} {out : Int32 × Mem} (hE : Ends X SX (some (.int out.1)) out.2) (σ : Mem) (a0 : Int32) (h : FX8_isGate σ a0 = some out) : J X SX mX8_isGate σ 0 [(0, .int a0)] [] := by
  refine r_iload_n 0 dX8_isGate_0 rfl rfl rfl ?_
  refine r_if_eq dX8_isGate_1 rfl rfl h (fun c h => ?_) (fun c h => ?_)
  · refine r_iconst dX8_isGate_9 rfl ki_1 ?_
    refine r_goto dX8_isGate_10 rfl ?_
    exact r_zret rfl dX8_isGate_14 h hE
  · refine r_iload_n 0 dX8_isGate_4 rfl rfl rfl ?_
    refine r_iconst dX8_isGate_5 rfl ki_1 ?_
    refine r_icmp_ne dX8_isGate_6 rfl rfl h (fun c h => ?_) (fun c h => ?_)
    · refine r_iconst dX8_isGate_13 rfl ki_0 ?_
      exact r_zret rfl dX8_isGate_14 h hE
    · refine r_iconst dX8_isGate_9 rfl ki_1 ?_
      refine r_goto dX8_isGate_10 rfl ?_
      exact r_zret rfl dX8_isGate_14 h hE
theorem coX8_isGate (σ : Mem) (a0 : Int32) (r : Int32) (σ2 : Mem) (h : FX8_isGate σ a0 = some (r, σ2)) : Con SX 1 yX8_isGate cX8_isGate 1 (some .boolean) (fun ad => [.int a0]) σ (fun _ => some (.int r)) σ2 :=
  con_of (by decide +kernel) (fun _ => Nat.le_of_ble_eq_true rfl) (fun X hE => eX8_isGate (out := (r, σ2)) hE σ a0 h)
-- IceYard pushNumber
abbrev mX8_pushNumber : MD := (cX8_pushNumber, RX8, 2, (some .int), 1)
noncomputable def FX8_pushNumber (σ : Mem) (a0 : Int32) (a1 : Int32) : Option (Int32 × Mem) :=
  some ((((10 : Int32) * a0) + a1), σ)
set_option maxHeartbeats 4000000 in
set_option maxRecDepth 100000 in
theorem eX8_pushNumber {X : CX} {out : Int32 × Mem} (hE : Ends X SX (some (.int out.1)) out.2) (σ : Mem) (a0 : Int32) (a1 : Int32) (h : FX8_pushNumber σ a0 a1 = some out) : J X SX mX8_pushNumber σ 0 [(0, .int a0), (1, .int a1)] [] := by
  refine r_bipush dX8_pushNumber_0 rfl kb_10 ?_
  refine r_iload_n 0 dX8_pushNumber_2 rfl rfl rfl ?_
  refine r_imul dX8_pushNumber_3 rfl ?_
  refine r_iload_n 1 dX8_pushNumber_4 rfl rfl rfl ?_
  refine r_iadd dX8_pushNumber_5 rfl ?_
  exact r_iret rfl dX8_pushNumber_6 h hE
theorem coX8_pushNumber (σ : Mem) (a0 : Int32) (a1 : Int32) (r : Int32) (σ2 : Mem) (h : FX8_pushNumber σ a0 a1 = some (r, σ2)) : Con SX 1 yX8_pushNumber cX8_pushNumber 2 (some .int) (fun ad => [.int a0, .int a1]) σ (fun _ => some (.int r)) σ2 :=
  con_of (by decide +kernel) (fun _ => Nat.le_of_ble_eq_true rfl) (fun X hE => eX8_pushNumber (out := (r, σ2)) hE σ a0 a1 h)
-- IceYard$Search slotOf
abbrev mX4_slotOf : MD := (cX4_slotOf, RX4, 7, (some .int), 1)
noncomputable def BX4_slotOf_13 (rl13 : Mem → Int64 → Int32 → Int32 → Option (Int32 × Mem)) (σ : Mem) (x1 : Int64) (x3 : Int32) (x4 : Int32) : Option (Int32 × Mem) :=
  if (4096 : Int32) ≤ x4 then
  (some ((-1 : Int32), σ))
  else
  (nm ((x3 + x4) &&& (4095 : Int32)) fun x_7 =>
  rd x_7 4096 fun j8 =>
  nm ((σ.1 27 j8) - (1 : Int32)) fun x_9 =>
  if x_9 < 0 then
  (some (x_7, σ))
  else
  (if (1500 : Int32) ≤ x_9 then
  (some (x_7, σ))
  else
  (rd x_9 1500 fun j10 =>
  if (lg_cmp (σ.2 23 j10) x1) = 0 then
  (some (x_7, σ))
  else
  (nm (x4 + (1 : Int32)) fun x_11 =>
  rl13 σ x1 x3 x_11))))
set_option maxHeartbeats 4000000 in
set_option maxRecDepth 100000 in
theorem jX4_slotOf_13 {X : CX} {out : Int32 × Mem} (hE : Ends X SX (some (.int out.1)) out.2) (rl13 : Mem → Int64 → Int32 → Int32 → Option (Int32 × Mem)) (hr13 : ∀ (σ : Mem) (x1 : Int64) (x3 : Int32) (x4 : Int32), rl13 σ x1 x3 x4 = some out → J X SX mX4_slotOf σ 13 [(0, .ref (xad X 3)), (1, .long x1), (3, .int x3), (4, .int x4)] []) (σ : Mem) (x1 : Int64) (x3 : Int32) (x4 : Int32) (h : BX4_slotOf_13 rl13 σ x1 x3 x4 = some out) : J X SX mX4_slotOf σ 13 [(0, .ref (xad X 3)), (1, .long x1), (3, .int x3), (4, .int x4)] [] := by
  refine r_iload 3 dX4_slotOf_13 rfl rfl ?_
  refine r_sipush dX4_slotOf_15 rfl ks_4096 ?_
  refine r_icmp_ge dX4_slotOf_18 rfl rfl h (fun c h => ?_) (fun c h => ?_)
  · refine r_iconst dX4_slotOf_76 rfl ki_m1 ?_
    exact r_iret rfl dX4_slotOf_77 h hE
  · refine r_iload_n 2 dX4_slotOf_21 rfl rfl rfl ?_
    refine r_iload 3 dX4_slotOf_22 rfl rfl ?_
    refine r_iadd dX4_slotOf_24 rfl ?_
    refine r_sipush dX4_slotOf_25 rfl ks_4095 ?_
    refine r_iand dX4_slotOf_28 rfl ?_
    refine r_istore (fun x_7 => [(5, .int x_7), (0, .ref (xad X 3)), (1, .long x1), (3, .int x3), (4, .int x4)]) dX4_slotOf_29 rfl (show 5 < 7 by decide) (fun _ => rfl) h (fun x_7 h => ?_)
    refine r_aload_n 1 dX4_slotOf_31 rfl rfl rfl ?_
    refine r_getR fg_RX4_25 rfl rfl dX4_slotOf_32 rfl ?_
    refine r_iload 0 dX4_slotOf_35 rfl rfl ?_
    refine r_iald rfl dX4_slotOf_37 rfl h (fun j8 h => ?_)
    refine r_iconst dX4_slotOf_38 rfl ki_1 ?_
    refine r_isub dX4_slotOf_39 rfl ?_
    refine r_istore (fun x_9 => [(6, .int x_9), (5, .int x_7), (0, .ref (xad X 3)), (1, .long x1), (3, .int x3), (4, .int x4)]) dX4_slotOf_40 rfl (show 6 < 7 by decide) (fun _ => rfl) h (fun x_9 h => ?_)
    refine r_iload 0 dX4_slotOf_42 rfl rfl ?_
    refine r_if_lt dX4_slotOf_44 rfl rfl h (fun c h => ?_) (fun c h => ?_)
    · refine r_iload 1 dX4_slotOf_67 rfl rfl ?_
      exact r_iret rfl dX4_slotOf_69 h hE
    · refine r_iload 0 dX4_slotOf_47 rfl rfl ?_
      refine r_sipush dX4_slotOf_49 rfl ks_1500 ?_
      refine r_icmp_ge dX4_slotOf_52 rfl rfl h (fun c h => ?_) (fun c h => ?_)
      · refine r_iload 1 dX4_slotOf_67 rfl rfl ?_
        exact r_iret rfl dX4_slotOf_69 h hE
      · refine r_aload_n 2 dX4_slotOf_55 rfl rfl rfl ?_
        refine r_getR fg_RX4_11 rfl rfl dX4_slotOf_56 rfl ?_
        refine r_iload 0 dX4_slotOf_59 rfl rfl ?_
        refine r_lald rfl dX4_slotOf_61 rfl h (fun j10 h => ?_)
        refine r_lload_n 3 dX4_slotOf_62 rfl rfl rfl ?_
        refine r_lcmp dX4_slotOf_63 rfl ?_
        refine r_if_ne dX4_slotOf_64 rfl rfl h (fun c h => ?_) (fun c h => ?_)
        · refine r_iinc 5 (fun x_11 => [(4, .int x_11), (6, .int x_9), (5, .int x_7), (0, .ref (xad X 3)), (1, .long x1), (3, .int x3)]) dX4_slotOf_70 rfl rfl ki_1 (show 4 < 7 by decide) (fun _ => rfl) h (fun x_11 h => ?_)
          refine r_goto dX4_slotOf_73 rfl ?_
          refine r_sub [3, 4, 5, 0] rfl ?_
          exact hr13 σ x1 x3 x_11 h
        · refine r_iload 1 dX4_slotOf_67 rfl rfl ?_
          exact r_iret rfl dX4_slotOf_69 h hE
noncomputable def FX4_slotOf_13 (n : Nat) : Mem → Int64 → Int32 → Int32 → Option (Int32 × Mem) :=
  Nat.rec (fun _ _ _ _ => none) (fun _ ih => BX4_slotOf_13 ih) n
theorem lX4_slotOf_13 {X : CX} {out : Int32 × Mem} (hE : Ends X SX (some (.int out.1)) out.2) : ∀ (n : Nat) (σ : Mem) (x1 : Int64) (x3 : Int32) (x4 : Int32), FX4_slotOf_13 n σ x1 x3 x4 = some out → J X SX mX4_slotOf σ 13 [(0, .ref (xad X 3)), (1, .long x1), (3, .int x3), (4, .int x4)] [] := by
  intro n
  induction n with
  | zero => intro σ x1 x3 x4 h; exact nn h
  | succ n ih => intro σ x1 x3 x4 h; exact jX4_slotOf_13 hE (FX4_slotOf_13 n) ih σ x1 x3 x4 h
noncomputable def FX4_slotOf (σ : Mem) (a1 : Int64) : Option (Int32 × Mem) :=
  nm ((((((a1 * (-7046029254386353131 : Int64))).toUInt64 >>> (((52 : Int32)).toInt64.toUInt64 &&& Int64.toUInt64 63)).toInt64)).toInt32) fun x_12 =>
  FX4_slotOf_13 FU σ a1 x_12 (0 : Int32)
set_option maxHeartbeats 4000000 in
set_option maxRecDepth 100000 in
theorem eX4_slotOf {X : CX} {out : Int32 × Mem} (hE : Ends X SX (some (.int out.1)) out.2) (σ : Mem) (a1 : Int64) (h : FX4_slotOf σ a1 = some out) : J X SX mX4_slotOf σ 0 [(0, .ref (xad X 3)), (1, .long a1)] [] := by
  refine r_lload_n 1 dX4_slotOf_0 rfl rfl rfl ?_
  refine r_ldc2 dX4_slotOf_1 rfl cl_RX4_85 ?_
  refine r_lmul dX4_slotOf_4 rfl ?_
  refine r_bipush dX4_slotOf_5 rfl kb_52 ?_
  refine r_lushr dX4_slotOf_7 rfl ?_
  refine r_l2i dX4_slotOf_8 rfl ?_
  refine r_istore_n (fun x_12 => [(3, .int x_12), (0, .ref (xad X 3)), (1, .long a1)]) dX4_slotOf_9 rfl rfl (show 3 < 7 by decide) (fun _ => rfl) h (fun x_12 h => ?_)
  refine r_iconst dX4_slotOf_10 rfl ki_0 ?_
  refine r_istoreV [(4, .int (0 : Int32)), (3, .int x_12), (0, .ref (xad X 3)), (1, .long a1)] dX4_slotOf_11 rfl (show 4 < 7 by decide) rfl ?_
  refine r_sub [2, 3, 1, 0] rfl ?_
  exact lX4_slotOf_13 hE FU σ a1 x_12 (0 : Int32) h
theorem coX4_slotOf (σ : Mem) (a1 : Int64) (r : Int32) (σ2 : Mem) (h : FX4_slotOf σ a1 = some (r, σ2)) : Con SX 1 yX4_slotOf cX4_slotOf 7 (some .int) (fun ad => [.ref (ad 3), .long a1]) σ (fun _ => some (.int r)) σ2 :=
  con_of (by decide +kernel) (fun _ => Nat.le_of_ble_eq_true rfl) (fun X hE => eX4_slotOf (out := (r, σ2)) hE σ a1 h)

-- IceYard faulty
abbrev mX8_faulty : MD := (cX8_faulty, RX8, 2, (some .int), 1)
noncomputable def FX8_faulty (σ : Mem) (a1 : Int32) : Option (Int32 × Mem) :=
  nm (setI σ 0 12 a1) fun σ2 =>
  some (((-10 : Int32) - a1), σ2)
set_option maxHeartbeats 4000000 in
set_option maxRecDepth 100000 in
theorem eX8_faulty {X : CX} {out : Int32 × Mem} (hE : Ends X SX (some (.int out.1)) out.2) (σ : Mem) (a1 : Int32) (h : FX8_faulty σ a1 = some out) : J X SX mX8_faulty σ 0 [(0, .ref (xad X 0)), (1, .int a1)] [] := by
  refine r_aload_n 0 dX8_faulty_0 rfl rfl rfl ?_
  refine r_iload_n 1 dX8_faulty_1 rfl rfl rfl ?_
  refine r_putI fp_RX8_73 rfl rfl dX8_faulty_2 rfl h (fun σ2 h => ?_)
  refine r_bipush dX8_faulty_5 rfl kb_m10 ?_
  refine r_iload_n 1 dX8_faulty_7 rfl rfl rfl ?_
  refine r_isub dX8_faulty_8 rfl ?_
  exact r_iret rfl dX8_faulty_9 h hE
theorem coX8_faulty (σ : Mem) (a1 : Int32) (r : Int32) (σ2 : Mem) (h : FX8_faulty σ a1 = some (r, σ2)) : Con SX 1 yX8_faulty cX8_faulty 2 (some .int) (fun ad => [.ref (ad 0), .int a1]) σ (fun _ => some (.int r)) σ2 :=
  con_of (by decide +kernel) (fun _ => Nat.le_of_ble_eq_true rfl) (fun X hE => eX8_faulty (out := (r, σ2)) hE σ a1 h)
-- IceYard isGate
abbrev mX8_isGate : MD := (cX8_isGate, RX8, 1, (some .boolean), 1)
noncomputable def FX8_isGate (σ : Mem) (a0 : Int32) : Option (Int32 × Mem) :=
  if a0 = 0 then
  (rz (1 : Int32) σ)
  else
  (if a0 = (1 : Int32) then
  (rz (1 : Int32) σ)
  else
  (rz (0 : Int32) σ))
set_option maxHeartbeats 4000000 in
set_option maxRecDepth 100000 in
theorem eX8_isGate {X : CX} {out : Int32 × Mem} (hE : Ends X SX (some (.int out.1)) out.2) (σ : Mem) (a0 : Int32) (h : FX8_isGate σ a0 = some out) : J X SX mX8_isGate σ 0 [(0, .int a0)] [] := by
  refine r_iload_n 0 dX8_isGate_0 rfl rfl rfl ?_
  refine r_if_eq dX8_isGate_1 rfl rfl h (fun c h => ?_) (fun c h => ?_)
  · refine r_iconst dX8_isGate_9 rfl ki_1 ?_
    refine r_goto dX8_isGate_10 rfl ?_
    exact r_zret rfl dX8_isGate_14 h hE
  · refine r_iload_n 0 dX8_isGate_4 rfl rfl rfl ?_
    refine r_iconst dX8_isGate_5 rfl ki_1 ?_
    refine r_icmp_ne dX8_isGate_6 rfl rfl h (fun c h => ?_) (fun c h => ?_)
    · refine r_iconst dX8_isGate_13 rfl ki_0 ?_
      exact r_zret rfl dX8_isGate_14 h hE
    · refine r_iconst dX8_isGate_9 rfl ki_1 ?_
      refine r_goto dX8_isGate_10 rfl ?_
      exact r_zret rfl dX8_isGate_14 h hE
theorem coX8_isGate (σ : Mem) (a0 : Int32) (r : Int32) (σ2 : Mem) (h : FX8_isGate σ a0 = some (r, σ2)) : Con SX 1 yX8_isGate cX8_isGate 1 (some .boolean) (fun ad => [.int a0]) σ (fun _ => some (.int r)) σ2 :=
  con_of (by decide +kernel) (fun _ => Nat.le_of_ble_eq_true rfl) (fun X hE => eX8_isGate (out := (r, σ2)) hE σ a0 h)
-- IceYard pushNumber
abbrev mX8_pushNumber : MD := (cX8_pushNumber, RX8, 2, (some .int), 1)
noncomputable def FX8_pushNumber (σ : Mem) (a0 : Int32) (a1 : Int32) : Option (Int32 × Mem) :=
  some ((((10 : Int32) * a0) + a1), σ)
set_option maxHeartbeats 4000000 in
set_option maxRecDepth 100000 in
theorem eX8_pushNumber {X : CX} {out : Int32 × Mem} (hE : Ends X SX (some (.int out.1)) out.2) (σ : Mem) (a0 : Int32) (a1 : Int32) (h : FX8_pushNumber σ a0 a1 = some out) : J X SX mX8_pushNumber σ 0 [(0, .int a0), (1, .int a1)] [] := by
  refine r_bipush dX8_pushNumber_0 rfl kb_10 ?_
  refine r_iload_n 0 dX8_pushNumber_2 rfl rfl rfl ?_
  refine r_imul dX8_pushNumber_3 rfl ?_
  refine r_iload_n 1 dX8_pushNumber_4 rfl rfl rfl ?_
  refine r_iadd dX8_pushNumber_5 rfl ?_
  exact r_iret rfl dX8_pushNumber_6 h hE
theorem coX8_pushNumber (σ : Mem) (a0 : Int32) (a1 : Int32) (r : Int32) (σ2 : Mem) (h : FX8_pushNumber σ a0 a1 = some (r, σ2)) : Con SX 1 yX8_pushNumber cX8_pushNumber 2 (some .int) (fun ad => [.int a0, .int a1]) σ (fun _ => some (.int r)) σ2 :=
  con_of (by decide +kernel) (fun _ => Nat.le_of_ble_eq_true rfl) (fun X hE => eX8_pushNumber (out := (r, σ2)) hE σ a0 a1 h)
-- IceYard$Search slotOf
abbrev mX4_slotOf : MD := (cX4_slotOf, RX4, 7, (some .int), 1)
noncomputable def BX4_slotOf_13 (rl13 : Mem → Int64 → Int32 → Int32 → Option (Int32 × Mem)) (σ : Mem) (x1 : Int64) (x3 : Int32) (x4 : Int32) : Option (Int32 × Mem) :=
  if (4096 : Int32) ≤ x4 then
  (some ((-1 : Int32), σ))
  else
  (nm ((x3 + x4) &&& (4095 : Int32)) fun x_7 =>
  rd x_7 4096 fun j8 =>
  nm ((σ.1 27 j8) - (1 : Int32)) fun x_9 =>
  if x_9 < 0 then
  (some (x_7, σ))
  else
  (if (1500 : Int32) ≤ x_9 then
  (some (x_7, σ))
  else
  (rd x_9 1500 fun j10 =>
  if (lg_cmp (σ.2 23 j10) x1) = 0 then
  (some (x_7, σ))
  else
  (nm (x4 + (1 : Int32)) fun x_11 =>
  rl13 σ x1 x3 x_11))))
set_option maxHeartbeats 4000000 in
set_option maxRecDepth 100000 in
theorem jX4_slotOf_13 {X : CX} {out : Int32 × Mem} (hE : Ends X SX (some (.int out.1)) out.2) (rl13 : Mem → Int64 → Int32 → Int32 → Option (Int32 × Mem)) (hr13 : ∀ (σ : Mem) (x1 : Int64) (x3 : Int32) (x4 : Int32), rl13 σ x1 x3 x4 = some out → J X SX mX4_slotOf σ 13 [(0, .ref (xad X 3)), (1, .long x1), (3, .int x3), (4, .int x4)] []) (σ : Mem) (x1 : Int64) (x3 : Int32) (x4 : Int32) (h : BX4_slotOf_13 rl13 σ x1 x3 x4 = some out) : J X SX mX4_slotOf σ 13 [(0, .ref (xad X 3)), (1, .long x1), (3, .int x3), (4, .int x4)] [] := by
  refine r_iload 3 dX4_slotOf_13 rfl rfl ?_
  refine r_sipush dX4_slotOf_15 rfl ks_4096 ?_
  refine r_icmp_ge dX4_slotOf_18 rfl rfl h (fun c h => ?_) (fun c h => ?_)
  · refine r_iconst dX4_slotOf_76 rfl ki_m1 ?_
    exact r_iret rfl dX4_slotOf_77 h hE
  · refine r_iload_n 2 dX4_slotOf_21 rfl rfl rfl ?_
    refine r_iload 3 dX4_slotOf_22 rfl rfl ?_
    refine r_iadd dX4_slotOf_24 rfl ?_
    refine r_sipush dX4_slotOf_25 rfl ks_4095 ?_
    refine r_iand dX4_slotOf_28 rfl ?_
    refine r_istore (fun x_7 => [(5, .int x_7), (0, .ref (xad X 3)), (1, .long x1), (3, .int x3), (4, .int x4)]) dX4_slotOf_29 rfl (show 5 < 7 by decide) (fun _ => rfl) h (fun x_7 h => ?_)
    refine r_aload_n 1 dX4_slotOf_31 rfl rfl rfl ?_
    refine r_getR fg_RX4_25 rfl rfl dX4_slotOf_32 rfl ?_
    refine r_iload 0 dX4_slotOf_35 rfl rfl ?_
    refine r_iald rfl dX4_slotOf_37 rfl h (fun j8 h => ?_)
    refine r_iconst dX4_slotOf_38 rfl ki_1 ?_
    refine r_isub dX4_slotOf_39 rfl ?_
    refine r_istore (fun x_9 => [(6, .int x_9), (5, .int x_7), (0, .ref (xad X 3)), (1, .long x1), (3, .int x3), (4, .int x4)]) dX4_slotOf_40 rfl (show 6 < 7 by decide) (fun _ => rfl) h (fun x_9 h => ?_)
    refine r_iload 0 dX4_slotOf_42 rfl rfl ?_
    refine r_if_lt dX4_slotOf_44 rfl rfl h (fun c h => ?_) (fun c h => ?_)
    · refine r_iload 1 dX4_slotOf_67 rfl rfl ?_
      exact r_iret rfl dX4_slotOf_69 h hE
    · refine r_iload 0 dX4_slotOf_47 rfl rfl ?_
      refine r_sipush dX4_slotOf_49 rfl ks_1500 ?_
      refine r_icmp_ge dX4_slotOf_52 rfl rfl h (fun c h => ?_) (fun c h => ?_)
      · refine r_iload 1 dX4_slotOf_67 rfl rfl ?_
        exact r_iret rfl dX4_slotOf_69 h hE
      · refine r_aload_n 2 dX4_slotOf_55 rfl rfl rfl ?_
        refine r_getR fg_RX4_11 rfl rfl dX4_slotOf_56 rfl ?_
        refine r_iload 0 dX4_slotOf_59 rfl rfl ?_
        refine r_lald rfl dX4_slotOf_61 rfl h (fun j10 h => ?_)
        refine r_lload_n 3 dX4_slotOf_62 rfl rfl rfl ?_
        refine r_lcmp dX4_slotOf_63 rfl ?_
        refine r_if_ne dX4_slotOf_64 rfl rfl h (fun c h => ?_) (fun c h => ?_)
        · refine r_iinc 5 (fun x_11 => [(4, .int x_11), (6, .int x_9), (5, .int x_7), (0, .ref (xad X 3)), (1, .long x1), (3, .int x3)]) dX4_slotOf_70 rfl rfl ki_1 (show 4 < 7 by decide) (fun _ => rfl) h (fun x_11 h => ?_)
          refine r_goto dX4_slotOf_73 rfl ?_
          refine r_sub [3, 4, 5, 0] rfl ?_
          exact hr13 σ x1 x3 x_11 h
        · refine r_iload 1 dX4_slotOf_67 rfl rfl ?_
          exact r_iret rfl dX4_slotOf_69 h hE
noncomputable def FX4_slotOf_13 (n : Nat) : Mem → Int64 → Int32 → Int32 → Option (Int32 × Mem) :=
  Nat.rec (fun _ _ _ _ => none) (fun _ ih => BX4_slotOf_13 ih) n
theorem lX4_slotOf_13 {X : CX} {out : Int32 × Mem} (hE : Ends X SX (some (.int out.1)) out.2) : ∀ (n : Nat) (σ : Mem) (x1 : Int64) (x3 : Int32) (x4 : Int32), FX4_slotOf_13 n σ x1 x3 x4 = some out → J X SX mX4_slotOf σ 13 [(0, .ref (xad X 3)), (1, .long x1), (3, .int x3), (4, .int x4)] [] := by
  intro n
  induction n with
  | zero => intro σ x1 x3 x4 h; exact nn h
  | succ n ih => intro σ x1 x3 x4 h; exact jX4_slotOf_13 hE (FX4_slotOf_13 n) ih σ x1 x3 x4 h
noncomputable def FX4_slotOf (σ : Mem) (a1 : Int64) : Option (Int32 × Mem) :=
  nm ((((((a1 * (-7046029254386353131 : Int64))).toUInt64 >>> (((52 : Int32)).toInt64.toUInt64 &&& Int64.toUInt64 63)).toInt64)).toInt32) fun x_12 =>
  FX4_slotOf_13 FU σ a1 x_12 (0 : Int32)
set_option maxHeartbeats 4000000 in
set_option maxRecDepth 100000 in
theorem eX4_slotOf {X : CX} {out : Int32 × Mem} (hE : Ends X SX (some (.int out.1)) out.2) (σ : Mem) (a1 : Int64) (h : FX4_slotOf σ a1 = some out) : J X SX mX4_slotOf σ 0 [(0, .ref (xad X 3)), (1, .long a1)] [] := by
  refine r_lload_n 1 dX4_slotOf_0 rfl rfl rfl ?_
  refine r_ldc2 dX4_slotOf_1 rfl cl_RX4_85 ?_
  refine r_lmul dX4_slotOf_4 rfl ?_
  refine r_bipush dX4_slotOf_5 rfl kb_52 ?_
  refine r_lushr dX4_slotOf_7 rfl ?_
  refine r_l2i dX4_slotOf_8 rfl ?_
  refine r_istore_n (fun x_12 => [(3, .int x_12), (0, .ref (xad X 3)), (1, .long a1)]) dX4_slotOf_9 rfl rfl (show 3 < 7 by decide) (fun _ => rfl) h (fun x_12 h => ?_)
  refine r_iconst dX4_slotOf_10 rfl ki_0 ?_
  refine r_istoreV [(4, .int (0 : Int32)), (3, .int x_12), (0, .ref (xad X 3)), (1, .long a1)] dX4_slotOf_11 rfl (show 4 < 7 by decide) rfl ?_
  refine r_sub [2, 3, 1, 0] rfl ?_
  exact lX4_slotOf_13 hE FU σ a1 x_12 (0 : Int32) h
theorem coX4_slotOf (σ : Mem) (a1 : Int64) (r : Int32) (σ2 : Mem) (h : FX4_slotOf σ a1 = some (r, σ2)) : Con SX 1 yX4_slotOf cX4_slotOf 7 (some .int) (fun ad => [.ref (ad 3), .long a1]) σ (fun _ => some (.int r)) σ2 :=
  con_of (by decide +kernel) (fun _ => Nat.le_of_ble_eq_true rfl) (fun X hE => eX4_slotOf (out := (r, σ2)) hE σ a1 h)
-- IceYard$Search note
abbrev mX4_note : MD := (cX4_note, RX4, 6, (some .boolean), 2)
noncomputable def FX4_note (σ : Mem) (a1 : Int64) (a3 : Int32) (a4 : Int32) : Option (Int32 × Mem) :=
  bi (FX4_slotOf σ a1) fun r10 σ9 =>
  if r10 < 0 then
  (rz (0 : Int32) σ9)
  else
  (if r10 < (4096 : Int32) then
  (rd r10 4096 fun j11 =>
  if (σ9.1 27 j11) = 0 then
  (if (σ9.1 3 7) < 0 then
  (rz (0 : Int32) σ9)
  else
  (if (σ9.1 3 7) < (1500 : Int32) then
  (stL σ9 23 1500 (σ9.1 3 7) a1 fun σ12 =>
  stI σ12 24 1500 (σ12.1 3 7) a3 fun σ13 =>
  stI σ13 25 1500 (σ13.1 3 7) a4 fun σ14 =>
  nm (setI σ14 3 7 ((σ14.1 3 7) + (1 : Int32))) fun σ15 =>
  stI σ15 27 4096 r10 (σ15.1 3 7) fun σ16 =>
  rz (1 : Int32) σ16)
  else
  (rz (0 : Int32) σ9)))
  else
  (rz (1 : Int32) σ9))
  else
  (rz (0 : Int32) σ9))
set_option maxHeartbeats 4000000 in
set_option maxRecDepth 100000 in
theorem eX4_note {X : CX} {out : Int32 × Mem} (hE : Ends X SX (some (.int out.1)) out.2) (σ : Mem) (a1 : Int64) (a3 : Int32) (a4 : Int32) (h : FX4_note σ a1 a3 a4 = some out) : J X SX mX4_note σ 0 [(0, .ref (xad X 3)), (1, .long a1), (3, .int a3), (4, .int a4)] [] := by
  refine r_aload_n 0 dX4_note_0 rfl rfl rfl ?_
  refine r_lload_n 1 dX4_note_1 rfl rfl rfl ?_
  obtain ⟨r10, σ9, hc, h⟩ := bi_of h
  refine r_callV [.long a1] [] [.int r10]  (coX4_slotOf σ a1 r10 σ9 hc) mv_RX4_81 (by decide) rfl rfl rfl rfl rfl (Nat.le_of_ble_eq_true rfl) rfl dX4_note_2 rfl ?_
  refine r_istoreV [(5, .int r10), (0, .ref (xad X 3)), (1, .long a1), (3, .int a3), (4, .int a4)] dX4_note_5 rfl (show 5 < 6 by decide) rfl ?_
  refine r_iload 0 dX4_note_7 rfl rfl ?_
  refine r_if_lt dX4_note_9 rfl rfl h (fun c h => ?_) (fun c h => ?_)
  · refine r_iconst dX4_note_20 rfl ki_0 ?_
    exact r_zret rfl dX4_note_21 h hE
  · refine r_iload 0 dX4_note_12 rfl rfl ?_
    refine r_sipush dX4_note_14 rfl ks_4096 ?_
    refine r_icmp_lt dX4_note_17 rfl rfl h (fun c h => ?_) (fun c h => ?_)
    · refine r_aload_n 1 dX4_note_22 rfl rfl rfl ?_
      refine r_getR fg_RX4_25 rfl rfl dX4_note_23 rfl ?_
      refine r_iload 0 dX4_note_26 rfl rfl ?_
      refine r_iald rfl dX4_note_28 rfl h (fun j11 h => ?_)
      refine r_if_eq dX4_note_29 rfl rfl h (fun c h => ?_) (fun c h => ?_)
      · refine r_aload_n 1 dX4_note_34 rfl rfl rfl ?_
        refine r_getI fg_RX4_42 rfl rfl dX4_note_35 rfl ?_
        refine r_if_lt dX4_note_38 rfl rfl h (fun c h => ?_) (fun c h => ?_)
        · refine r_iconst dX4_note_51 rfl ki_0 ?_
          exact r_zret rfl dX4_note_52 h hE
        · refine r_aload_n 1 dX4_note_41 rfl rfl rfl ?_
          refine r_getI fg_RX4_42 rfl rfl dX4_note_42 rfl ?_
          refine r_sipush dX4_note_45 rfl ks_1500 ?_
          refine r_icmp_lt dX4_note_48 rfl rfl h (fun c h => ?_) (fun c h => ?_)
          · refine r_aload_n 1 dX4_note_53 rfl rfl rfl ?_
            refine r_getR fg_RX4_11 rfl rfl dX4_note_54 rfl ?_
            refine r_aload_n 1 dX4_note_57 rfl rfl rfl ?_
            refine r_getI fg_RX4_42 rfl rfl dX4_note_58 rfl ?_
            refine r_lload_n 2 dX4_note_61 rfl rfl rfl ?_
            refine r_last rfl dX4_note_62 rfl h (fun σ12 h => ?_)
            refine r_aload_n 1 dX4_note_63 rfl rfl rfl ?_
            refine r_getR fg_RX4_15 rfl rfl dX4_note_64 rfl ?_
            refine r_aload_n 1 dX4_note_67 rfl rfl rfl ?_
            refine r_getI fg_RX4_42 rfl rfl dX4_note_68 rfl ?_
            refine r_iload_n 3 dX4_note_71 rfl rfl rfl ?_
            refine r_iast rfl dX4_note_72 rfl h (fun σ13 h => ?_)
            refine r_aload_n 1 dX4_note_73 rfl rfl rfl ?_
            refine r_getR fg_RX4_19 rfl rfl dX4_note_74 rfl ?_
            refine r_aload_n 1 dX4_note_77 rfl rfl rfl ?_
            refine r_getI fg_RX4_42 rfl rfl dX4_note_78 rfl ?_
            refine r_iload 4 dX4_note_81 rfl rfl ?_
            refine r_iast rfl dX4_note_83 rfl h (fun σ14 h => ?_)
            refine r_aload_n 1 dX4_note_84 rfl rfl rfl ?_
            refine r_dup dX4_note_85 rfl rfl ?_
            refine r_getI fg_RX4_42 rfl rfl dX4_note_86 rfl ?_
            refine r_iconst dX4_note_89 rfl ki_1 ?_
            refine r_iadd dX4_note_90 rfl ?_
            refine r_putI fp_RX4_42 rfl rfl dX4_note_91 rfl h (fun σ15 h => ?_)
            refine r_aload_n 1 dX4_note_94 rfl rfl rfl ?_
            refine r_getR fg_RX4_25 rfl rfl dX4_note_95 rfl ?_
            refine r_iload 0 dX4_note_98 rfl rfl ?_
            refine r_aload_n 1 dX4_note_100 rfl rfl rfl ?_
            refine r_getI fg_RX4_42 rfl rfl dX4_note_101 rfl ?_
            refine r_iast rfl dX4_note_104 rfl h (fun σ16 h => ?_)
            refine r_iconst dX4_note_105 rfl ki_1 ?_
            exact r_zret rfl dX4_note_106 h hE
          · refine r_iconst dX4_note_51 rfl ki_0 ?_
            exact r_zret rfl dX4_note_52 h hE
      · refine r_iconst dX4_note_32 rfl ki_1 ?_
        exact r_zret rfl dX4_note_33 h hE
    · refine r_iconst dX4_note_20 rfl ki_0 ?_
      exact r_zret rfl dX4_note_21 h hE
theorem coX4_note (σ : Mem) (a1 : Int64) (a3 : Int32) (a4 : Int32) (r : Int32) (σ2 : Mem) (h : FX4_note σ a1 a3 a4 = some (r, σ2)) : Con SX 2 yX4_note cX4_note 6 (some .boolean) (fun ad => [.ref (ad 3), .long a1, .int a3, .int a4]) σ (fun _ => some (.int r)) σ2 :=
  con_of (by decide +kernel) (fun _ => Nat.le_of_ble_eq_true rfl) (fun X hE => eX4_note (out := (r, σ2)) hE σ a1 a3 a4 h)
-- IceYard$Search writeRow
abbrev mX4_writeRow : MD := (cX4_writeRow, RX4, 7, none, 1)
noncomputable def BX4_writeRow_68 (rl68 : Mem → Int32 → Int32 → Int32 → Int32 → Option (Mem)) (σ : Mem) (x3 : Int32) (x4 : Int32) (x5 : Int32) (x6 : Int32) : Option (Mem) :=
  if (1500 : Int32) ≤ x6 then
  (some σ)
  else
  (if x4 < 0 then
  (some σ)
  else
  (if (1500 : Int32) ≤ x4 then
  (some σ)
  else
  (stI σ 26 1500 x4 x5 fun σ16 =>
  nm (x4 + (-1 : Int32)) fun x_17 =>
  if x3 ≤ 0 then
  (nm (x6 + (1 : Int32)) fun x_18 =>
  rl68 σ16 x3 x_17 x5 x_18)
  else
  (if (1500 : Int32) ≤ x3 then
  (nm (x6 + (1 : Int32)) fun x_19 =>
  rl68 σ16 x3 x_17 x5 x_19)
  else
  (rd x3 1500 fun j20 =>
  nm (σ16.1 25 j20) fun x_21 =>
  rd x3 1500 fun j22 =>
  nm (σ16.1 24 j22) fun x_23 =>
  nm (x6 + (1 : Int32)) fun x_24 =>
  rl68 σ16 x_23 x_17 x_21 x_24)))))
set_option maxHeartbeats 4000000 in
set_option maxRecDepth 100000 in
theorem jX4_writeRow_68 {X : CX} {out : Mem} (hE : Ends X SX none out) (rl68 : Mem → Int32 → Int32 → Int32 → Int32 → Option (Mem)) (hr68 : ∀ (σ : Mem) (x3 : Int32) (x4 : Int32) (x5 : Int32) (x6 : Int32), rl68 σ x3 x4 x5 x6 = some out → J X SX mX4_writeRow σ 68 [(0, .ref (xad X 3)), (3, .int x3), (4, .int x4), (5, .int x5), (6, .int x6)] []) (σ : Mem) (x3 : Int32) (x4 : Int32) (x5 : Int32) (x6 : Int32) (h : BX4_writeRow_68 rl68 σ x3 x4 x5 x6 = some out) : J X SX mX4_writeRow σ 68 [(0, .ref (xad X 3)), (3, .int x3), (4, .int x4), (5, .int x5), (6, .int x6)] [] := by
  refine r_iload 4 dX4_writeRow_68 rfl rfl ?_
  refine r_sipush dX4_writeRow_70 rfl ks_1500 ?_
  refine r_icmp_ge dX4_writeRow_73 rfl rfl h (fun c h => ?_) (fun c h => ?_)
  · exact r_vret rfl dX4_writeRow_135 h hE
  · refine r_iload 2 dX4_writeRow_76 rfl rfl ?_
    refine r_if_lt dX4_writeRow_78 rfl rfl h (fun c h => ?_) (fun c h => ?_)
    · exact r_vret rfl dX4_writeRow_135 h hE
    · refine r_iload 2 dX4_writeRow_81 rfl rfl ?_
      refine r_aload_n 0 dX4_writeRow_83 rfl rfl rfl ?_
      refine r_getR fg_RX4_22 rfl rfl dX4_writeRow_84 rfl ?_
      refine r_alen rfl (by decide) rfl dX4_writeRow_87 rfl ?_
      refine r_icmp_ge dX4_writeRow_88 rfl rfl h (fun c h => ?_) (fun c h => ?_)
      · exact r_vret rfl dX4_writeRow_135 h hE
      · refine r_aload_n 0 dX4_writeRow_91 rfl rfl rfl ?_
        refine r_getR fg_RX4_22 rfl rfl dX4_writeRow_92 rfl ?_
        refine r_iload 2 dX4_writeRow_95 rfl rfl ?_
        refine r_iload 3 dX4_writeRow_97 rfl rfl ?_
        refine r_iast rfl dX4_writeRow_99 rfl h (fun σ16 h => ?_)
        refine r_iinc 2 (fun x_17 => [(4, .int x_17), (0, .ref (xad X 3)), (3, .int x3), (5, .int x5), (6, .int x6)]) dX4_writeRow_100 rfl rfl ki_m1 (show 4 < 7 by decide) (fun _ => rfl) h (fun x_17 h => ?_)
        refine r_iload_n 2 dX4_writeRow_103 rfl rfl rfl ?_
        refine r_if_le dX4_writeRow_104 rfl rfl h (fun c h => ?_) (fun c h => ?_)
        · refine r_iinc 4 (fun x_18 => [(6, .int x_18), (4, .int x_17), (0, .ref (xad X 3)), (3, .int x3), (5, .int x5)]) dX4_writeRow_129 rfl rfl ki_1 (show 6 < 7 by decide) (fun _ => rfl) h (fun x_18 h => ?_)
          refine r_goto dX4_writeRow_132 rfl ?_
          refine r_sub [2, 3, 1, 4, 0] rfl ?_
          exact hr68 σ16 x3 x_17 x5 x_18 h
        · refine r_iload_n 2 dX4_writeRow_107 rfl rfl rfl ?_
          refine r_sipush dX4_writeRow_108 rfl ks_1500 ?_
          refine r_icmp_ge dX4_writeRow_111 rfl rfl h (fun c h => ?_) (fun c h => ?_)
          · refine r_iinc 4 (fun x_19 => [(6, .int x_19), (4, .int x_17), (0, .ref (xad X 3)), (3, .int x3), (5, .int x5)]) dX4_writeRow_129 rfl rfl ki_1 (show 6 < 7 by decide) (fun _ => rfl) h (fun x_19 h => ?_)
            refine r_goto dX4_writeRow_132 rfl ?_
            refine r_sub [2, 3, 1, 4, 0] rfl ?_
            exact hr68 σ16 x3 x_17 x5 x_19 h
          · refine r_aload_n 1 dX4_writeRow_114 rfl rfl rfl ?_
            refine r_getR fg_RX4_19 rfl rfl dX4_writeRow_115 rfl ?_
            refine r_iload_n 2 dX4_writeRow_118 rfl rfl rfl ?_
            refine r_iald rfl dX4_writeRow_119 rfl h (fun j20 h => ?_)
            refine r_istore (fun x_21 => [(5, .int x_21), (4, .int x_17), (0, .ref (xad X 3)), (3, .int x3), (6, .int x6)]) dX4_writeRow_120 rfl (show 5 < 7 by decide) (fun _ => rfl) h (fun x_21 h => ?_)
            refine r_aload_n 2 dX4_writeRow_122 rfl rfl rfl ?_
            refine r_getR fg_RX4_15 rfl rfl dX4_writeRow_123 rfl ?_
            refine r_iload_n 3 dX4_writeRow_126 rfl rfl rfl ?_
            refine r_iald rfl dX4_writeRow_127 rfl h (fun j22 h => ?_)
            refine r_istore_n (fun x_23 => [(3, .int x_23), (5, .int x_21), (4, .int x_17), (0, .ref (xad X 3)), (6, .int x6)]) dX4_writeRow_128 rfl rfl (show 3 < 7 by decide) (fun _ => rfl) h (fun x_23 h => ?_)
            refine r_iinc 4 (fun x_24 => [(6, .int x_24), (3, .int x_23), (5, .int x_21), (4, .int x_17), (0, .ref (xad X 3))]) dX4_writeRow_129 rfl rfl ki_1 (show 6 < 7 by decide) (fun _ => rfl) h (fun x_24 h => ?_)
            refine r_goto dX4_writeRow_132 rfl ?_
            refine r_sub [4, 1, 3, 2, 0] rfl ?_
            exact hr68 σ16 x_23 x_17 x_21 x_24 h
noncomputable def FX4_writeRow_68 (n : Nat) : Mem → Int32 → Int32 → Int32 → Int32 → Option (Mem) :=
  Nat.rec (fun _ _ _ _ _ => none) (fun _ ih => BX4_writeRow_68 ih) n
theorem lX4_writeRow_68 {X : CX} {out : Mem} (hE : Ends X SX none out) : ∀ (n : Nat) (σ : Mem) (x3 : Int32) (x4 : Int32) (x5 : Int32) (x6 : Int32), FX4_writeRow_68 n σ x3 x4 x5 x6 = some out → J X SX mX4_writeRow σ 68 [(0, .ref (xad X 3)), (3, .int x3), (4, .int x4), (5, .int x5), (6, .int x6)] [] := by
  intro n
  induction n with
  | zero => intro σ x3 x4 x5 x6 h; exact nn h
  | succ n ih => intro σ x3 x4 x5 x6 h; exact jX4_writeRow_68 hE (FX4_writeRow_68 n) ih σ x3 x4 x5 x6 h
noncomputable def FX4_writeRow_52 (σ : Mem) (x1 : Int32) (x2 : Int32) : Option (Mem) :=
  nm ((σ.1 3 8) - (1 : Int32)) fun x_25 =>
  FX4_writeRow_68 FU σ x1 x_25 x2 (0 : Int32)
set_option maxHeartbeats 4000000 in
set_option maxRecDepth 100000 in
theorem jX4_writeRow_52 {X : CX} {out : Mem} (hE : Ends X SX none out) (σ : Mem) (x1 : Int32) (x2 : Int32) (h : FX4_writeRow_52 σ x1 x2 = some out) : J X SX mX4_writeRow σ 52 [(0, .ref (xad X 3)), (1, .int x1), (2, .int x2)] [] := by
  refine r_aload_n 0 dX4_writeRow_52 rfl rfl rfl ?_
  refine r_getI fg_RX4_46 rfl rfl dX4_writeRow_53 rfl ?_
  refine r_iconst dX4_writeRow_56 rfl ki_1 ?_
  refine r_isub dX4_writeRow_57 rfl ?_
  refine r_istore (fun x_25 => [(4, .int x_25), (0, .ref (xad X 3)), (1, .int x1), (2, .int x2)]) dX4_writeRow_58 rfl (show 4 < 7 by decide) (fun _ => rfl) h (fun x_25 h => ?_)
  refine r_iload_n 2 dX4_writeRow_60 rfl rfl rfl ?_
  refine r_istoreV_n [(3, .int x1), (4, .int x_25), (0, .ref (xad X 3)), (1, .int x1), (2, .int x2)] dX4_writeRow_61 rfl rfl (show 3 < 7 by decide) rfl ?_
  refine r_iload_n 4 dX4_writeRow_62 rfl rfl rfl ?_
  refine r_istoreV [(5, .int x2), (3, .int x1), (4, .int x_25), (0, .ref (xad X 3)), (1, .int x1), (2, .int x2)] dX4_writeRow_63 rfl (show 5 < 7 by decide) rfl ?_
  refine r_iconst dX4_writeRow_65 rfl ki_0 ?_
  refine r_istoreV [(6, .int (0 : Int32)), (5, .int x2), (3, .int x1), (4, .int x_25), (0, .ref (xad X 3)), (1, .int x1), (2, .int x2)] dX4_writeRow_66 rfl (show 6 < 7 by decide) rfl ?_
  refine r_sub [4, 2, 3, 1, 0] rfl ?_
  exact lX4_writeRow_68 hE FU σ x1 x_25 x2 (0 : Int32) h
noncomputable def BX4_writeRow_10 (rl10 : Mem → Int32 → Int32 → Int32 → Int32 → Option (Mem)) (σ : Mem) (x1 : Int32) (x2 : Int32) (x3 : Int32) (x4 : Int32) : Option (Mem) :=
  if (1500 : Int32) ≤ x4 then
  (FX4_writeRow_52 σ x1 x2)
  else
  (if x3 ≤ 0 then
  (FX4_writeRow_52 σ x1 x2)
  else
  (if (1500 : Int32) ≤ x3 then
  (FX4_writeRow_52 σ x1 x2)
  else
  (nm (setI σ 3 8 ((σ.1 3 8) + (1 : Int32))) fun σ26 =>
  rd x3 1500 fun j27 =>
  nm (σ26.1 24 j27) fun x_28 =>
  nm (x4 + (1 : Int32)) fun x_29 =>
  rl10 σ26 x1 x2 x_28 x_29)))
set_option maxHeartbeats 4000000 in
set_option maxRecDepth 100000 in
theorem jX4_writeRow_10 {X : CX} {out : Mem} (hE : Ends X SX none out) (rl10 : Mem → Int32 → Int32 → Int32 → Int32 → Option (Mem)) (hr10 : ∀ (σ : Mem) (x1 : Int32) (x2 : Int32) (x3 : Int32) (x4 : Int32), rl10 σ x1 x2 x3 x4 = some out → J X SX mX4_writeRow σ 10 [(0, .ref (xad X 3)), (1, .int x1), (2, .int x2), (3, .int x3), (4, .int x4)] []) (σ : Mem) (x1 : Int32) (x2 : Int32) (x3 : Int32) (x4 : Int32) (h : BX4_writeRow_10 rl10 σ x1 x2 x3 x4 = some out) : J X SX mX4_writeRow σ 10 [(0, .ref (xad X 3)), (1, .int x1), (2, .int x2), (3, .int x3), (4, .int x4)] [] := by
  refine r_iload 4 dX4_writeRow_10 rfl rfl ?_
  refine r_sipush dX4_writeRow_12 rfl ks_1500 ?_
  refine r_icmp_ge dX4_writeRow_15 rfl rfl h (fun c h => ?_) (fun c h => ?_)
  · refine r_sub [0, 1, 2] rfl ?_
    exact jX4_writeRow_52 hE σ x1 x2 h
  · refine r_iload_n 3 dX4_writeRow_18 rfl rfl rfl ?_
    refine r_if_le dX4_writeRow_19 rfl rfl h (fun c h => ?_) (fun c h => ?_)
    · refine r_sub [0, 1, 2] rfl ?_
      exact jX4_writeRow_52 hE σ x1 x2 h
    · refine r_iload_n 3 dX4_writeRow_22 rfl rfl rfl ?_
      refine r_sipush dX4_writeRow_23 rfl ks_1500 ?_
      refine r_icmp_ge dX4_writeRow_26 rfl rfl h (fun c h => ?_) (fun c h => ?_)
      · refine r_sub [0, 1, 2] rfl ?_
        exact jX4_writeRow_52 hE σ x1 x2 h
      · refine r_aload_n 0 dX4_writeRow_29 rfl rfl rfl ?_
        refine r_dup dX4_writeRow_30 rfl rfl ?_
        refine r_getI fg_RX4_46 rfl rfl dX4_writeRow_31 rfl ?_
        refine r_iconst dX4_writeRow_34 rfl ki_1 ?_
        refine r_iadd dX4_writeRow_35 rfl ?_
        refine r_putI fp_RX4_46 rfl rfl dX4_writeRow_36 rfl h (fun σ26 h => ?_)
        refine r_aload_n 0 dX4_writeRow_39 rfl rfl rfl ?_
        refine r_getR fg_RX4_15 rfl rfl dX4_writeRow_40 rfl ?_
        refine r_iload_n 3 dX4_writeRow_43 rfl rfl rfl ?_
        refine r_iald rfl dX4_writeRow_44 rfl h (fun j27 h => ?_)
        refine r_istore_n (fun x_28 => [(3, .int x_28), (0, .ref (xad X 3)), (1, .int x1), (2, .int x2), (4, .int x4)]) dX4_writeRow_45 rfl rfl (show 3 < 7 by decide) (fun _ => rfl) h (fun x_28 h => ?_)
        refine r_iinc 4 (fun x_29 => [(4, .int x_29), (3, .int x_28), (0, .ref (xad X 3)), (1, .int x1), (2, .int x2)]) dX4_writeRow_46 rfl rfl ki_1 (show 4 < 7 by decide) (fun _ => rfl) h (fun x_29 h => ?_)
        refine r_goto dX4_writeRow_49 rfl ?_
        refine r_sub [2, 3, 4, 1, 0] rfl ?_
        exact hr10 σ26 x1 x2 x_28 x_29 h
noncomputable def FX4_writeRow_10 (n : Nat) : Mem → Int32 → Int32 → Int32 → Int32 → Option (Mem) :=
  Nat.rec (fun _ _ _ _ _ => none) (fun _ ih => BX4_writeRow_10 ih) n
theorem lX4_writeRow_10 {X : CX} {out : Mem} (hE : Ends X SX none out) : ∀ (n : Nat) (σ : Mem) (x1 : Int32) (x2 : Int32) (x3 : Int32) (x4 : Int32), FX4_writeRow_10 n σ x1 x2 x3 x4 = some out → J X SX mX4_writeRow σ 10 [(0, .ref (xad X 3)), (1, .int x1), (2, .int x2), (3, .int x3), (4, .int x4)] [] := by
  intro n
  induction n with
  | zero => intro σ x1 x2 x3 x4 h; exact nn h
  | succ n ih => intro σ x1 x2 x3 x4 h; exact jX4_writeRow_10 hE (FX4_writeRow_10 n) ih σ x1 x2 x3 x4 h
noncomputable def FX4_writeRow (σ : Mem) (a1 : Int32) (a2 : Int32) : Option (Mem) :=
  nm (setI σ 3 8 (1 : Int32)) fun σ30 =>
  FX4_writeRow_10 FU σ30 a1 a2 a1 (0 : Int32)
set_option maxHeartbeats 4000000 in
set_option maxRecDepth 100000 in
theorem eX4_writeRow {X : CX} {out : Mem} (hE : Ends X SX none out) (σ : Mem) (a1 : Int32) (a2 : Int32) (h : FX4_writeRow σ a1 a2 = some out) : J X SX mX4_writeRow σ 0 [(0, .ref (xad X 3)), (1, .int a1), (2, .int a2)] [] := by
  refine r_aload_n 0 dX4_writeRow_0 rfl rfl rfl ?_
  refine r_iconst dX4_writeRow_1 rfl ki_1 ?_
  refine r_putI fp_RX4_46 rfl rfl dX4_writeRow_2 rfl h (fun σ30 h => ?_)
  refine r_iload_n 1 dX4_writeRow_5 rfl rfl rfl ?_
  refine r_istoreV_n [(3, .int a1), (0, .ref (xad X 3)), (1, .int a1), (2, .int a2)] dX4_writeRow_6 rfl rfl (show 3 < 7 by decide) rfl ?_
  refine r_iconst dX4_writeRow_7 rfl ki_0 ?_
  refine r_istoreV [(4, .int (0 : Int32)), (3, .int a1), (0, .ref (xad X 3)), (1, .int a1), (2, .int a2)] dX4_writeRow_8 rfl (show 4 < 7 by decide) rfl ?_
  refine r_sub [2, 3, 4, 1, 0] rfl ?_
  exact lX4_writeRow_10 hE FU σ30 a1 a2 a1 (0 : Int32) h
theorem coX4_writeRow (σ : Mem) (a1 : Int32) (a2 : Int32) (σ2 : Mem) (h : FX4_writeRow σ a1 a2 = some σ2) : Con SX 1 yX4_writeRow cX4_writeRow 7 none (fun ad => [.ref (ad 3), .int a1, .int a2]) σ (fun _ => none) σ2 :=
  con_of (by decide +kernel) (fun _ => Nat.le_of_ble_eq_true rfl) (fun X hE => eX4_writeRow (out := σ2) hE σ a1 a2 h)
-- IceYard$Ground hasBlock
abbrev mX1_hasBlock : MD := (cX1_hasBlock, RX1, 2, (some .boolean), 1)
noncomputable def FX1_hasBlock (σ : Mem) (a1 : Int32) : Option (Int32 × Mem) :=
  if a1 < 0 then
  (rz (0 : Int32) σ)
  else
  (if (σ.1 1 6) ≤ a1 then
  (rz (0 : Int32) σ)
  else
  (if (6 : Int32) ≤ a1 then
  (rz (0 : Int32) σ)
  else
  (rz (1 : Int32) σ)))
set_option maxHeartbeats 4000000 in
set_option maxRecDepth 100000 in
theorem eX1_hasBlock {X : CX} {out : Int32 × Mem} (hE : Ends X SX (some (.int out.1)) out.2) (σ : Mem) (a1 : Int32) (h : FX1_hasBlock σ a1 = some out) : J X SX mX1_hasBlock σ 0 [(0, .ref (xad X 1)), (1, .int a1)] [] := by
  refine r_iload_n 1 dX1_hasBlock_0 rfl rfl rfl ?_
  refine r_if_lt dX1_hasBlock_1 rfl rfl h (fun c h => ?_) (fun c h => ?_)
  · refine r_iconst dX1_hasBlock_22 rfl ki_0 ?_
    exact r_zret rfl dX1_hasBlock_23 h hE
  · refine r_iload_n 1 dX1_hasBlock_4 rfl rfl rfl ?_
    refine r_aload_n 0 dX1_hasBlock_5 rfl rfl rfl ?_
    refine r_getI fg_RX1_31 rfl rfl dX1_hasBlock_6 rfl ?_
    refine r_icmp_ge dX1_hasBlock_9 rfl rfl h (fun c h => ?_) (fun c h => ?_)
    · refine r_iconst dX1_hasBlock_22 rfl ki_0 ?_
      exact r_zret rfl dX1_hasBlock_23 h hE
    · refine r_iload_n 1 dX1_hasBlock_12 rfl rfl rfl ?_
      refine r_bipush dX1_hasBlock_13 rfl kb_6 ?_
      refine r_icmp_ge dX1_hasBlock_15 rfl rfl h (fun c h => ?_) (fun c h => ?_)
      · refine r_iconst dX1_hasBlock_22 rfl ki_0 ?_
        exact r_zret rfl dX1_hasBlock_23 h hE
      · refine r_iconst dX1_hasBlock_18 rfl ki_1 ?_
        refine r_goto dX1_hasBlock_19 rfl ?_
        exact r_zret rfl dX1_hasBlock_23 h hE
theorem coX1_hasBlock (σ : Mem) (a1 : Int32) (r : Int32) (σ2 : Mem) (h : FX1_hasBlock σ a1 = some (r, σ2)) : Con SX 1 yX1_hasBlock cX1_hasBlock 2 (some .boolean) (fun ad => [.ref (ad 1), .int a1]) σ (fun _ => some (.int r)) σ2 :=
  con_of (by decide +kernel) (fun _ => Nat.le_of_ble_eq_true rfl) (fun X hE => eX1_hasBlock (out := (r, σ2)) hE σ a1 h)
-- IceYard placeOf
abbrev mX8_placeOf : MD := (cX8_placeOf, RX8, 3, (some .int), 1)
noncomputable def FX8_placeOf (σ : Mem) (a0 : Int64) (a2 : Int32) : Option (Int32 × Mem) :=
  some (((((((a0).toUInt64 >>> ((((6 : Int32) * a2)).toInt64.toUInt64 &&& Int64.toUInt64 63)).toInt64) &&& (63 : Int64))).toInt32), σ)
set_option maxHeartbeats 4000000 in
set_option maxRecDepth 100000 in
theorem eX8_placeOf {X : CX} {out : Int32 × Mem} (hE : Ends X SX (some (.int out.1)) out.2) (σ : Mem) (a0 : Int64) (a2 : Int32) (h : FX8_placeOf σ a0 a2 = some out) : J X SX mX8_placeOf σ 0 [(0, .long a0), (2, .int a2)] [] := by
  refine r_lload_n 0 dX8_placeOf_0 rfl rfl rfl ?_
  refine r_bipush dX8_placeOf_1 rfl kb_6 ?_
  refine r_iload_n 1 dX8_placeOf_3 rfl rfl rfl ?_
  refine r_imul dX8_placeOf_4 rfl ?_
  refine r_lushr dX8_placeOf_5 rfl ?_
  refine r_ldc2 dX8_placeOf_6 rfl cl_RX8_266 ?_
  refine r_land dX8_placeOf_9 rfl ?_
  refine r_l2i dX8_placeOf_10 rfl ?_
  exact r_iret rfl dX8_placeOf_11 h hE
theorem coX8_placeOf (σ : Mem) (a0 : Int64) (a2 : Int32) (r : Int32) (σ2 : Mem) (h : FX8_placeOf σ a0 a2 = some (r, σ2)) : Con SX 1 yX8_placeOf cX8_placeOf 3 (some .int) (fun ad => [.long a0, .int a2]) σ (fun _ => some (.int r)) σ2 :=
  con_of (by decide +kernel) (fun _ => Nat.le_of_ble_eq_true rfl) (fun X hE => eX8_placeOf (out := (r, σ2)) hE σ a0 a2 h)
-- IceYard has
abbrev mX8_has : MD := (cX8_has, RX8, 3, (some .boolean), 1)
noncomputable def FX8_has (σ : Mem) (a0 : Int64) (a2 : Int32) : Option (Int32 × Mem) :=
  if (lg_cmp ((((a0).toUInt64 >>> ((a2).toInt64.toUInt64 &&& Int64.toUInt64 63)).toInt64) &&& (1 : Int64)) (0 : Int64)) = 0 then
  (rz (0 : Int32) σ)
  else
  (rz (1 : Int32) σ)
set_option maxHeartbeats 4000000 in
set_option maxRecDepth 100000 in
theorem eX8_has {X : CX} {out : Int32 × Mem} (hE : Ends X SX (some (.int out.1)) out.2) (σ : Mem) (a0 : Int64) (a2 : Int32) (h : FX8_has σ a0 a2 = some out) : J X SX mX8_has σ 0 [(0, .long a0), (2, .int a2)] [] := by
  refine r_lload_n 0 dX8_has_0 rfl rfl rfl ?_
  refine r_iload_n 1 dX8_has_1 rfl rfl rfl ?_
  refine r_lushr dX8_has_2 rfl ?_
  refine r_lconst dX8_has_3 rfl kl_1 ?_
  refine r_land dX8_has_4 rfl ?_
  refine r_lconst dX8_has_5 rfl kl_0 ?_
  refine r_lcmp dX8_has_6 rfl ?_
  refine r_if_eq dX8_has_7 rfl rfl h (fun c h => ?_) (fun c h => ?_)
  · refine r_iconst dX8_has_14 rfl ki_0 ?_
    exact r_zret rfl dX8_has_15 h hE
  · refine r_iconst dX8_has_10 rfl ki_1 ?_
    refine r_goto dX8_has_11 rfl ?_
    exact r_zret rfl dX8_has_15 h hE
theorem coX8_has (σ : Mem) (a0 : Int64) (a2 : Int32) (r : Int32) (σ2 : Mem) (h : FX8_has σ a0 a2 = some (r, σ2)) : Con SX 1 yX8_has cX8_has 3 (some .boolean) (fun ad => [.long a0, .int a2]) σ (fun _ => some (.int r)) σ2 :=
  con_of (by decide +kernel) (fun _ => Nat.le_of_ble_eq_true rfl) (fun X hE => eX8_has (out := (r, σ2)) hE σ a0 a2 h)
-- IceYard$Ground openCracks
abbrev mX1_openCracks : MD := (cX1_openCracks, RX1, 6, (some .long), 2)
noncomputable def BX1_openCracks_5 (rl5 : Mem → Int64 → Int64 → Int32 → Option (Int64 × Mem)) (σ : Mem) (x1 : Int64) (x3 : Int64) (x5 : Int32) : Option (Int64 × Mem) :=
  if (σ.1 1 7) ≤ x5 then
  (some (x3, σ))
  else
  (if (4 : Int32) ≤ x5 then
  (some (x3, σ))
  else
  (bi (FX8_has σ x1 ((36 : Int32) + x5)) fun r8 σ7 =>
  if r8 = 0 then
  (rd x5 4 fun j10 =>
  nm (x3 ||| ((1 : Int64) <<< (((σ7.1 20 j10)).toInt64 &&& 63))) fun x_11 =>
  nm (x5 + (1 : Int32)) fun x_12 =>
  rl5 σ7 x1 x_11 x_12)
  else
  (nm (x5 + (1 : Int32)) fun x_9 =>
  rl5 σ7 x1 x3 x_9)))
set_option maxHeartbeats 4000000 in
set_option maxRecDepth 100000 in
theorem jX1_openCracks_5 {X : CX} {out : Int64 × Mem} (hE : Ends X SX (some (.long out.1)) out.2) (rl5 : Mem → Int64 → Int64 → Int32 → Option (Int64 × Mem)) (hr5 : ∀ (σ : Mem) (x1 : Int64) (x3 : Int64) (x5 : Int32), rl5 σ x1 x3 x5 = some out → J X SX mX1_openCracks σ 5 [(0, .ref (xad X 1)), (1, .long x1), (3, .long x3), (5, .int x5)] []) (σ : Mem) (x1 : Int64) (x3 : Int64) (x5 : Int32) (h : BX1_openCracks_5 rl5 σ x1 x3 x5 = some out) : J X SX mX1_openCracks σ 5 [(0, .ref (xad X 1)), (1, .long x1), (3, .long x3), (5, .int x5)] [] := by
  refine r_iload 3 dX1_openCracks_5 rfl rfl ?_
  refine r_aload_n 0 dX1_openCracks_7 rfl rfl rfl ?_
  refine r_getI fg_RX1_44 rfl rfl dX1_openCracks_8 rfl ?_
  refine r_icmp_ge dX1_openCracks_11 rfl rfl h (fun c h => ?_) (fun c h => ?_)
  · refine r_lload_n 2 dX1_openCracks_50 rfl rfl rfl ?_
    exact r_lret rfl dX1_openCracks_51 h hE
  · refine r_iload 3 dX1_openCracks_14 rfl rfl ?_
    refine r_iconst dX1_openCracks_16 rfl ki_4 ?_
    refine r_icmp_ge dX1_openCracks_17 rfl rfl h (fun c h => ?_) (fun c h => ?_)
    · refine r_lload_n 2 dX1_openCracks_50 rfl rfl rfl ?_
      exact r_lret rfl dX1_openCracks_51 h hE
    · refine r_lload_n 1 dX1_openCracks_20 rfl rfl rfl ?_
      refine r_bipush dX1_openCracks_21 rfl kb_36 ?_
      refine r_iload 3 dX1_openCracks_23 rfl rfl ?_
      refine r_iadd dX1_openCracks_25 rfl ?_
      obtain ⟨r8, σ7, hc, h⟩ := bi_of h
      refine r_callN [] [.int r8]  (coX8_has σ x1 ((36 : Int32) + x5) r8 σ7 hc) mn_RX1_90 (by decide) rfl rfl (Nat.le_of_ble_eq_true rfl) rfl dX1_openCracks_26 rfl ?_
      refine r_if_ne dX1_openCracks_29 rfl rfl h (fun c h => ?_) (fun c h => ?_)
      · refine r_iinc 3 (fun x_9 => [(5, .int x_9), (0, .ref (xad X 1)), (1, .long x1), (3, .long x3)]) dX1_openCracks_44 rfl rfl ki_1 (show 5 < 6 by decide) (fun _ => rfl) h (fun x_9 h => ?_)
        refine r_goto dX1_openCracks_47 rfl ?_
        refine r_sub [1, 2, 3, 0] rfl ?_
        exact hr5 σ7 x1 x3 x_9 h
      · refine r_lload_n 2 dX1_openCracks_32 rfl rfl rfl ?_
        refine r_lconst dX1_openCracks_33 rfl kl_1 ?_
        refine r_aload_n 0 dX1_openCracks_34 rfl rfl rfl ?_
        refine r_getR fg_RX1_18 rfl rfl dX1_openCracks_35 rfl ?_
        refine r_iload 3 dX1_openCracks_38 rfl rfl ?_
        refine r_iald rfl dX1_openCracks_40 rfl h (fun j10 h => ?_)
        refine r_lshl dX1_openCracks_41 rfl ?_
        refine r_lor dX1_openCracks_42 rfl ?_
        refine r_lstore_n (fun x_11 => [(3, .long x_11), (0, .ref (xad X 1)), (1, .long x1), (5, .int x5)]) dX1_openCracks_43 rfl rfl (show 3 + 1 < 6 by decide) (fun _ => rfl) h (fun x_11 h => ?_)
        refine r_iinc 3 (fun x_12 => [(5, .int x_12), (3, .long x_11), (0, .ref (xad X 1)), (1, .long x1)]) dX1_openCracks_44 rfl rfl ki_1 (show 5 < 6 by decide) (fun _ => rfl) h (fun x_12 h => ?_)
        refine r_goto dX1_openCracks_47 rfl ?_
        refine r_sub [2, 3, 1, 0] rfl ?_
        exact hr5 σ7 x1 x_11 x_12 h
noncomputable def FX1_openCracks_5 (n : Nat) : Mem → Int64 → Int64 → Int32 → Option (Int64 × Mem) :=
  Nat.rec (fun _ _ _ _ => none) (fun _ ih => BX1_openCracks_5 ih) n
theorem lX1_openCracks_5 {X : CX} {out : Int64 × Mem} (hE : Ends X SX (some (.long out.1)) out.2) : ∀ (n : Nat) (σ : Mem) (x1 : Int64) (x3 : Int64) (x5 : Int32), FX1_openCracks_5 n σ x1 x3 x5 = some out → J X SX mX1_openCracks σ 5 [(0, .ref (xad X 1)), (1, .long x1), (3, .long x3), (5, .int x5)] [] := by
  intro n
  induction n with
  | zero => intro σ x1 x3 x5 h; exact nn h
  | succ n ih => intro σ x1 x3 x5 h; exact jX1_openCracks_5 hE (FX1_openCracks_5 n) ih σ x1 x3 x5 h
noncomputable def FX1_openCracks (σ : Mem) (a1 : Int64) : Option (Int64 × Mem) :=
  FX1_openCracks_5 FU σ a1 (0 : Int64) (0 : Int32)
set_option maxHeartbeats 4000000 in
set_option maxRecDepth 100000 in
theorem eX1_openCracks {X : CX} {out : Int64 × Mem} (hE : Ends X SX (some (.long out.1)) out.2) (σ : Mem) (a1 : Int64) (h : FX1_openCracks σ a1 = some out) : J X SX mX1_openCracks σ 0 [(0, .ref (xad X 1)), (1, .long a1)] [] := by
  refine r_lconst dX1_openCracks_0 rfl kl_0 ?_
  refine r_lstoreV_n [(3, .long (0 : Int64)), (0, .ref (xad X 1)), (1, .long a1)] dX1_openCracks_1 rfl rfl (show 3 + 1 < 6 by decide) rfl ?_
  refine r_iconst dX1_openCracks_2 rfl ki_0 ?_
  refine r_istoreV [(5, .int (0 : Int32)), (3, .long (0 : Int64)), (0, .ref (xad X 1)), (1, .long a1)] dX1_openCracks_3 rfl (show 5 < 6 by decide) rfl ?_
  refine r_sub [2, 3, 1, 0] rfl ?_
  exact lX1_openCracks_5 hE FU σ a1 (0 : Int64) (0 : Int32) h
theorem coX1_openCracks (σ : Mem) (a1 : Int64) (r : Int64) (σ2 : Mem) (h : FX1_openCracks σ a1 = some (r, σ2)) : Con SX 2 yX1_openCracks cX1_openCracks 6 (some .long) (fun ad => [.ref (ad 1), .long a1]) σ (fun _ => some (.long r)) σ2 :=
  con_of (by decide +kernel) (fun _ => Nat.le_of_ble_eq_true rfl) (fun X hE => eX1_openCracks (out := (r, σ2)) hE σ a1 h)
-- IceYard$Slider load
abbrev mX6_load : MD := (cX6_load, RX6, 5, none, 3)
noncomputable def FX6_load_65 (σ : Mem) (x1 : Int64) : Option (Mem) :=
  bi (FX1_openCracks σ x1) fun r13 σ12 =>
  nm (setL σ12 2 4 r13) fun σ14 =>
  nm (setL σ14 2 2 x1) fun σ15 =>
  some σ15
set_option maxHeartbeats 4000000 in
set_option maxRecDepth 100000 in
theorem jX6_load_65 {X : CX} {out : Mem} (hE : Ends X SX none out) (σ : Mem) (x1 : Int64) (h : FX6_load_65 σ x1 = some out) : J X SX mX6_load σ 65 [(0, .ref (xad X 2)), (1, .long x1)] [] := by
  refine r_aload_n 0 dX6_load_65 rfl rfl rfl ?_
  refine r_aload_n 0 dX6_load_66 rfl rfl rfl ?_
  refine r_getR fg_RX6_21 rfl rfl dX6_load_67 rfl ?_
  refine r_lload_n 1 dX6_load_70 rfl rfl rfl ?_
  obtain ⟨r13, σ12, hc, h⟩ := bi_of h
  refine r_callV [.long x1] [.ref (xad X 2)] [.long r13, .ref (xad X 2)]  (coX1_openCracks σ x1 r13 σ12 hc) mv_RX6_62 (by decide) rfl rfl rfl rfl rfl (Nat.le_of_ble_eq_true rfl) rfl dX6_load_71 rfl ?_
  refine r_putL fp_RX6_66 rfl rfl dX6_load_74 rfl h (fun σ14 h => ?_)
  refine r_aload_n 0 dX6_load_77 rfl rfl rfl ?_
  refine r_lload_n 1 dX6_load_78 rfl rfl rfl ?_
  refine r_putL fp_RX6_17 rfl rfl dX6_load_79 rfl h (fun σ15 h => ?_)
  exact r_vret rfl dX6_load_82 h hE
noncomputable def BX6_load_7 (rl7 : Mem → Int64 → Int32 → Option (Mem)) (σ : Mem) (x1 : Int64) (x3 : Int32) : Option (Mem) :=
  if (σ.1 1 6) ≤ x3 then
  (FX6_load_65 σ x1)
  else
  (if (6 : Int32) ≤ x3 then
  (FX6_load_65 σ x1)
  else
  (bi (FX8_placeOf σ x1 x3) fun r17 σ16 =>
  stI σ16 22 6 x3 r17 fun σ18 =>
  if (36 : Int32) ≤ r17 then
  (nm (x3 + (1 : Int32)) fun x_19 =>
  rl7 σ18 x1 x_19)
  else
  (nm (setL σ18 2 3 ((σ18.2 2 3) ||| ((1 : Int64) <<< ((r17).toInt64 &&& 63)))) fun σ20 =>
  nm (x3 + (1 : Int32)) fun x_21 =>
  rl7 σ20 x1 x_21)))
set_option maxHeartbeats 4000000 in
set_option maxRecDepth 100000 in
theorem jX6_load_7 {X : CX} {out : Mem} (hE : Ends X SX none out) (rl7 : Mem → Int64 → Int32 → Option (Mem)) (hr7 : ∀ (σ : Mem) (x1 : Int64) (x3 : Int32), rl7 σ x1 x3 = some out → J X SX mX6_load σ 7 [(0, .ref (xad X 2)), (1, .long x1), (3, .int x3)] []) (σ : Mem) (x1 : Int64) (x3 : Int32) (h : BX6_load_7 rl7 σ x1 x3 = some out) : J X SX mX6_load σ 7 [(0, .ref (xad X 2)), (1, .long x1), (3, .int x3)] [] := by
  refine r_iload_n 2 dX6_load_7 rfl rfl rfl ?_
  refine r_aload_n 0 dX6_load_8 rfl rfl rfl ?_
  refine r_getR fg_RX6_21 rfl rfl dX6_load_9 rfl ?_
  refine r_getI fg_RX6_55 rfl rfl dX6_load_12 rfl ?_
  refine r_icmp_ge dX6_load_15 rfl rfl h (fun c h => ?_) (fun c h => ?_)
  · refine r_sub [0, 1] rfl ?_
    exact jX6_load_65 hE σ x1 h
  · refine r_iload_n 2 dX6_load_18 rfl rfl rfl ?_
    refine r_bipush dX6_load_19 rfl kb_6 ?_
    refine r_icmp_ge dX6_load_21 rfl rfl h (fun c h => ?_) (fun c h => ?_)
    · refine r_sub [0, 1] rfl ?_
      exact jX6_load_65 hE σ x1 h
    · refine r_lload_n 1 dX6_load_24 rfl rfl rfl ?_
      refine r_iload_n 2 dX6_load_25 rfl rfl rfl ?_
      obtain ⟨r17, σ16, hc, h⟩ := bi_of h
      refine r_callN [] [.int r17]  (coX8_placeOf σ x1 x3 r17 σ16 hc) mn_RX6_58 (by decide) rfl rfl (Nat.le_of_ble_eq_true rfl) rfl dX6_load_26 rfl ?_
      refine r_istoreV [(4, .int r17), (0, .ref (xad X 2)), (1, .long x1), (3, .int x3)] dX6_load_29 rfl (show 4 < 5 by decide) rfl ?_
      refine r_aload_n 1 dX6_load_31 rfl rfl rfl ?_
      refine r_getR fg_RX6_9 rfl rfl dX6_load_32 rfl ?_
      refine r_iload_n 3 dX6_load_35 rfl rfl rfl ?_
      refine r_iload 0 dX6_load_36 rfl rfl ?_
      refine r_iast rfl dX6_load_38 rfl h (fun σ18 h => ?_)
      refine r_iload 0 dX6_load_39 rfl rfl ?_
      refine r_bipush dX6_load_41 rfl kb_36 ?_
      refine r_icmp_ge dX6_load_43 rfl rfl h (fun c h => ?_) (fun c h => ?_)
      · refine r_iinc 3 (fun x_19 => [(3, .int x_19), (4, .int r17), (0, .ref (xad X 2)), (1, .long x1)]) dX6_load_59 rfl rfl ki_1 (show 3 < 5 by decide) (fun _ => rfl) h (fun x_19 h => ?_)
        refine r_goto dX6_load_62 rfl ?_
        refine r_sub [2, 3, 0] rfl ?_
        exact hr7 σ18 x1 x_19 h
      · refine r_aload_n 1 dX6_load_46 rfl rfl rfl ?_
        refine r_dup dX6_load_47 rfl rfl ?_
        refine r_getL fg_RX6_52 rfl rfl dX6_load_48 rfl ?_
        refine r_lconst dX6_load_51 rfl kl_1 ?_
        refine r_iload 0 dX6_load_52 rfl rfl ?_
        refine r_lshl dX6_load_54 rfl ?_
        refine r_lor dX6_load_55 rfl ?_
        refine r_putL fp_RX6_52 rfl rfl dX6_load_56 rfl h (fun σ20 h => ?_)
        refine r_iinc 3 (fun x_21 => [(3, .int x_21), (4, .int r17), (0, .ref (xad X 2)), (1, .long x1)]) dX6_load_59 rfl rfl ki_1 (show 3 < 5 by decide) (fun _ => rfl) h (fun x_21 h => ?_)
        refine r_goto dX6_load_62 rfl ?_
        refine r_sub [2, 3, 0] rfl ?_
        exact hr7 σ20 x1 x_21 h
noncomputable def FX6_load_7 (n : Nat) : Mem → Int64 → Int32 → Option (Mem) :=
  Nat.rec (fun _ _ _ => none) (fun _ ih => BX6_load_7 ih) n
theorem lX6_load_7 {X : CX} {out : Mem} (hE : Ends X SX none out) : ∀ (n : Nat) (σ : Mem) (x1 : Int64) (x3 : Int32), FX6_load_7 n σ x1 x3 = some out → J X SX mX6_load σ 7 [(0, .ref (xad X 2)), (1, .long x1), (3, .int x3)] [] := by
  intro n
  induction n with
  | zero => intro σ x1 x3 h; exact nn h
  | succ n ih => intro σ x1 x3 h; exact jX6_load_7 hE (FX6_load_7 n) ih σ x1 x3 h
noncomputable def FX6_load (σ : Mem) (a1 : Int64) : Option (Mem) :=
  nm (setL σ 2 3 (0 : Int64)) fun σ22 =>
  FX6_load_7 FU σ22 a1 (0 : Int32)
set_option maxHeartbeats 4000000 in
set_option maxRecDepth 100000 in
theorem eX6_load {X : CX} {out : Mem} (hE : Ends X SX none out) (σ : Mem) (a1 : Int64) (h : FX6_load σ a1 = some out) : J X SX mX6_load σ 0 [(0, .ref (xad X 2)), (1, .long a1)] [] := by
  refine r_aload_n 0 dX6_load_0 rfl rfl rfl ?_
  refine r_lconst dX6_load_1 rfl kl_0 ?_
  refine r_putL fp_RX6_52 rfl rfl dX6_load_2 rfl h (fun σ22 h => ?_)
  refine r_iconst dX6_load_5 rfl ki_0 ?_
  refine r_istoreV_n [(3, .int (0 : Int32)), (0, .ref (xad X 2)), (1, .long a1)] dX6_load_6 rfl rfl (show 3 < 5 by decide) rfl ?_
  refine r_sub [1, 2, 0] rfl ?_
  exact lX6_load_7 hE FU σ22 a1 (0 : Int32) h
theorem coX6_load (σ : Mem) (a1 : Int64) (σ2 : Mem) (h : FX6_load σ a1 = some σ2) : Con SX 3 yX6_load cX6_load 5 none (fun ad => [.ref (ad 2), .long a1]) σ (fun _ => none) σ2 :=
  con_of (by decide +kernel) (fun _ => Nat.le_of_ble_eq_true rfl) (fun X hE => eX6_load (out := σ2) hE σ a1 h)
-- IceYard withPlace
abbrev mX8_withPlace : MD := (cX8_withPlace, RX8, 5, (some .long), 1)
noncomputable def FX8_withPlace (σ : Mem) (a0 : Int64) (a2 : Int32) (a3 : Int32) : Option (Int64 × Mem) :=
  nm ((6 : Int32) * a2) fun x_2 =>
  some (((a0 &&& (((63 : Int64) <<< ((x_2).toInt64 &&& 63)) ^^^ (-1 : Int64))) ||| (((a3).toInt64) <<< ((x_2).toInt64 &&& 63))), σ)
set_option maxHeartbeats 4000000 in
set_option maxRecDepth 100000 in
theorem eX8_withPlace {X : CX} {out : Int64 × Mem} (hE : Ends X SX (some (.long out.1)) out.2) (σ : Mem) (a0 : Int64) (a2 : Int32) (a3 : Int32) (h : FX8_withPlace σ a0 a2 a3 = some out) : J X SX mX8_withPlace σ 0 [(0, .long a0), (2, .int a2), (3, .int a3)] [] := by
  refine r_bipush dX8_withPlace_0 rfl kb_6 ?_
  refine r_iload_n 1 dX8_withPlace_2 rfl rfl rfl ?_
  refine r_imul dX8_withPlace_3 rfl ?_
  refine r_istore (fun x_2 => [(4, .int x_2), (0, .long a0), (2, .int a2), (3, .int a3)]) dX8_withPlace_4 rfl (show 4 < 5 by decide) (fun _ => rfl) h (fun x_2 h => ?_)
  refine r_lload_n 1 dX8_withPlace_6 rfl rfl rfl ?_
  refine r_ldc2 dX8_withPlace_7 rfl cl_RX8_266 ?_
  refine r_iload 0 dX8_withPlace_10 rfl rfl ?_
  refine r_lshl dX8_withPlace_12 rfl ?_
  refine r_ldc2 dX8_withPlace_13 rfl cl_RX8_68 ?_
  refine r_lxor dX8_withPlace_16 rfl ?_
  refine r_land dX8_withPlace_17 rfl ?_
  refine r_iload_n 3 dX8_withPlace_18 rfl rfl rfl ?_
  refine r_i2l dX8_withPlace_19 rfl ?_
  refine r_iload 0 dX8_withPlace_20 rfl rfl ?_
  refine r_lshl dX8_withPlace_22 rfl ?_
  refine r_lor dX8_withPlace_23 rfl ?_
  exact r_lret rfl dX8_withPlace_24 h hE
theorem coX8_withPlace (σ : Mem) (a0 : Int64) (a2 : Int32) (a3 : Int32) (r : Int64) (σ2 : Mem) (h : FX8_withPlace σ a0 a2 a3 = some (r, σ2)) : Con SX 1 yX8_withPlace cX8_withPlace 5 (some .long) (fun ad => [.long a0, .int a2, .int a3]) σ (fun _ => some (.long r)) σ2 :=
  con_of (by decide +kernel) (fun _ => Nat.le_of_ble_eq_true rfl) (fun X hE => eX8_withPlace (out := (r, σ2)) hE σ a0 a2 a3 h)
-- IceYard$Ground kindOf
abbrev mX1_kindOf : MD := (cX1_kindOf, RX1, 2, (some .int), 2)
noncomputable def FX1_kindOf (σ : Mem) (a1 : Int32) : Option (Int32 × Mem) :=
  bi (FX1_hasBlock σ a1) fun r5 σ4 =>
  if r5 = 0 then
  (some ((0 : Int32), σ4))
  else
  (rd a1 6 fun j6 =>
  some ((σ4.1 18 j6), σ4))
set_option maxHeartbeats 4000000 in
set_option maxRecDepth 100000 in
theorem eX1_kindOf {X : CX} {out : Int32 × Mem} (hE : Ends X SX (some (.int out.1)) out.2) (σ : Mem) (a1 : Int32) (h : FX1_kindOf σ a1 = some out) : J X SX mX1_kindOf σ 0 [(0, .ref (xad X 1)), (1, .int a1)] [] := by
  refine r_aload_n 0 dX1_kindOf_0 rfl rfl rfl ?_
  refine r_iload_n 1 dX1_kindOf_1 rfl rfl rfl ?_
  obtain ⟨r5, σ4, hc, h⟩ := bi_of h
  refine r_callV [.int a1] [] [.int r5]  (coX1_hasBlock σ a1 r5 σ4 hc) mv_RX1_34 (by decide) rfl rfl rfl rfl rfl (Nat.le_of_ble_eq_true rfl) rfl dX1_kindOf_2 rfl ?_
  refine r_if_eq dX1_kindOf_5 rfl rfl h (fun c h => ?_) (fun c h => ?_)
  · refine r_iconst dX1_kindOf_17 rfl ki_0 ?_
    exact r_iret rfl dX1_kindOf_18 h hE
  · refine r_aload_n 0 dX1_kindOf_8 rfl rfl rfl ?_
    refine r_getR fg_RX1_9 rfl rfl dX1_kindOf_9 rfl ?_
    refine r_iload_n 1 dX1_kindOf_12 rfl rfl rfl ?_
    refine r_iald rfl dX1_kindOf_13 rfl h (fun j6 h => ?_)
    refine r_goto dX1_kindOf_14 rfl ?_
    exact r_iret rfl dX1_kindOf_18 h hE
theorem coX1_kindOf (σ : Mem) (a1 : Int32) (r : Int32) (σ2 : Mem) (h : FX1_kindOf σ a1 = some (r, σ2)) : Con SX 2 yX1_kindOf cX1_kindOf 2 (some .int) (fun ad => [.ref (ad 1), .int a1]) σ (fun _ => some (.int r)) σ2 :=
  con_of (by decide +kernel) (fun _ => Nat.le_of_ble_eq_true rfl) (fun X hE => eX1_kindOf (out := (r, σ2)) hE σ a1 h)
-- IceYard$Ground wayFrom
abbrev mX1_wayFrom : MD := (cX1_wayFrom, RX1, 4, (some .int), 1)
noncomputable def FX1_wayFrom (σ : Mem) (a1 : Int32) (a2 : Int32) : Option (Int32 × Mem) :=
  nm ((a1 * (4 : Int32)) + a2) fun x_3 =>
  if x_3 < 0 then
  (some ((-1 : Int32), σ))
  else
  (if x_3 < (144 : Int32) then
  (rd x_3 144 fun j4 =>
  some ((σ.1 21 j4), σ))
  else
  (some ((-1 : Int32), σ)))
set_option maxHeartbeats 4000000 in
set_option maxRecDepth 100000 in
theorem eX1_wayFrom {X : CX} {out : Int32 × Mem} (hE : Ends X SX (some (.int out.1)) out.2) (σ : Mem) (a1 : Int32) (a2 : Int32) (h : FX1_wayFrom σ a1 a2 = some out) : J X SX mX1_wayFrom σ 0 [(0, .ref (xad X 1)), (1, .int a1), (2, .int a2)] [] := by
  refine r_iload_n 1 dX1_wayFrom_0 rfl rfl rfl ?_
  refine r_iconst dX1_wayFrom_1 rfl ki_4 ?_
  refine r_imul dX1_wayFrom_2 rfl ?_
  refine r_iload_n 2 dX1_wayFrom_3 rfl rfl rfl ?_
  refine r_iadd dX1_wayFrom_4 rfl ?_
  refine r_istore_n (fun x_3 => [(3, .int x_3), (0, .ref (xad X 1)), (1, .int a1), (2, .int a2)]) dX1_wayFrom_5 rfl rfl (show 3 < 4 by decide) (fun _ => rfl) h (fun x_3 h => ?_)
  refine r_iload_n 0 dX1_wayFrom_6 rfl rfl rfl ?_
  refine r_if_lt dX1_wayFrom_7 rfl rfl h (fun c h => ?_) (fun c h => ?_)
  · refine r_iconst dX1_wayFrom_19 rfl ki_m1 ?_
    refine r_goto dX1_wayFrom_20 rfl ?_
    exact r_iret rfl dX1_wayFrom_29 h hE
  · refine r_iload_n 0 dX1_wayFrom_10 rfl rfl rfl ?_
    refine r_aload_n 1 dX1_wayFrom_11 rfl rfl rfl ?_
    refine r_getR fg_RX1_21 rfl rfl dX1_wayFrom_12 rfl ?_
    refine r_alen rfl (by decide) rfl dX1_wayFrom_15 rfl ?_
    refine r_icmp_lt dX1_wayFrom_16 rfl rfl h (fun c h => ?_) (fun c h => ?_)
    · refine r_aload_n 1 dX1_wayFrom_23 rfl rfl rfl ?_
      refine r_getR fg_RX1_21 rfl rfl dX1_wayFrom_24 rfl ?_
      refine r_iload_n 0 dX1_wayFrom_27 rfl rfl rfl ?_
      refine r_iald rfl dX1_wayFrom_28 rfl h (fun j4 h => ?_)
      exact r_iret rfl dX1_wayFrom_29 h hE
    · refine r_iconst dX1_wayFrom_19 rfl ki_m1 ?_
      refine r_goto dX1_wayFrom_20 rfl ?_
      exact r_iret rfl dX1_wayFrom_29 h hE
theorem coX1_wayFrom (σ : Mem) (a1 : Int32) (a2 : Int32) (r : Int32) (σ2 : Mem) (h : FX1_wayFrom σ a1 a2 = some (r, σ2)) : Con SX 1 yX1_wayFrom cX1_wayFrom 4 (some .int) (fun ad => [.ref (ad 1), .int a1, .int a2]) σ (fun _ => some (.int r)) σ2 :=
  con_of (by decide +kernel) (fun _ => Nat.le_of_ble_eq_true rfl) (fun X hE => eX1_wayFrom (out := (r, σ2)) hE σ a1 a2 h)
-- IceYard$Slider blockIn
abbrev mX6_blockIn : MD := (cX6_blockIn, RX6, 3, (some .int), 1)
noncomputable def BX6_blockIn_2 (rl2 : Mem → Int32 → Int32 → Option (Int32 × Mem)) (σ : Mem) (x1 : Int32) (x2 : Int32) : Option (Int32 × Mem) :=
  if (σ.1 1 6) ≤ x2 then
  (some ((-1 : Int32), σ))
  else
  (if (6 : Int32) ≤ x2 then
  (some ((-1 : Int32), σ))
  else
  (rd x2 6 fun j3 =>
  if (σ.1 22 j3) = x1 then
  (some (x2, σ))
  else
  (nm (x2 + (1 : Int32)) fun x_4 =>
  rl2 σ x1 x_4)))
set_option maxHeartbeats 4000000 in
set_option maxRecDepth 100000 in
theorem jX6_blockIn_2 {X : CX} {out : Int32 × Mem} (hE : Ends X SX (some (.int out.1)) out.2) (rl2 : Mem → Int32 → Int32 → Option (Int32 × Mem)) (hr2 : ∀ (σ : Mem) (x1 : Int32) (x2 : Int32), rl2 σ x1 x2 = some out → J X SX mX6_blockIn σ 2 [(0, .ref (xad X 2)), (1, .int x1), (2, .int x2)] []) (σ : Mem) (x1 : Int32) (x2 : Int32) (h : BX6_blockIn_2 rl2 σ x1 x2 = some out) : J X SX mX6_blockIn σ 2 [(0, .ref (xad X 2)), (1, .int x1), (2, .int x2)] [] := by
  refine r_iload_n 2 dX6_blockIn_2 rfl rfl rfl ?_
  refine r_aload_n 0 dX6_blockIn_3 rfl rfl rfl ?_
  refine r_getR fg_RX6_21 rfl rfl dX6_blockIn_4 rfl ?_
  refine r_getI fg_RX6_55 rfl rfl dX6_blockIn_7 rfl ?_
  refine r_icmp_ge dX6_blockIn_10 rfl rfl h (fun c h => ?_) (fun c h => ?_)
  · refine r_iconst dX6_blockIn_37 rfl ki_m1 ?_
    exact r_iret rfl dX6_blockIn_38 h hE
  · refine r_iload_n 2 dX6_blockIn_13 rfl rfl rfl ?_
    refine r_bipush dX6_blockIn_14 rfl kb_6 ?_
    refine r_icmp_ge dX6_blockIn_16 rfl rfl h (fun c h => ?_) (fun c h => ?_)
    · refine r_iconst dX6_blockIn_37 rfl ki_m1 ?_
      exact r_iret rfl dX6_blockIn_38 h hE
    · refine r_aload_n 0 dX6_blockIn_19 rfl rfl rfl ?_
      refine r_getR fg_RX6_9 rfl rfl dX6_blockIn_20 rfl ?_
      refine r_iload_n 2 dX6_blockIn_23 rfl rfl rfl ?_
      refine r_iald rfl dX6_blockIn_24 rfl h (fun j3 h => ?_)
      refine r_iload_n 1 dX6_blockIn_25 rfl rfl rfl ?_
      refine r_icmp_ne dX6_blockIn_26 rfl rfl h (fun c h => ?_) (fun c h => ?_)
      · refine r_iinc 2 (fun x_4 => [(2, .int x_4), (0, .ref (xad X 2)), (1, .int x1)]) dX6_blockIn_31 rfl rfl ki_1 (show 2 < 3 by decide) (fun _ => rfl) h (fun x_4 h => ?_)
        refine r_goto dX6_blockIn_34 rfl ?_
        refine r_sub [1, 2, 0] rfl ?_
        exact hr2 σ x1 x_4 h
      · refine r_iload_n 2 dX6_blockIn_29 rfl rfl rfl ?_
        exact r_iret rfl dX6_blockIn_30 h hE
noncomputable def FX6_blockIn_2 (n : Nat) : Mem → Int32 → Int32 → Option (Int32 × Mem) :=
  Nat.rec (fun _ _ _ => none) (fun _ ih => BX6_blockIn_2 ih) n
theorem lX6_blockIn_2 {X : CX} {out : Int32 × Mem} (hE : Ends X SX (some (.int out.1)) out.2) : ∀ (n : Nat) (σ : Mem) (x1 : Int32) (x2 : Int32), FX6_blockIn_2 n σ x1 x2 = some out → J X SX mX6_blockIn σ 2 [(0, .ref (xad X 2)), (1, .int x1), (2, .int x2)] [] := by
  intro n
  induction n with
  | zero => intro σ x1 x2 h; exact nn h
  | succ n ih => intro σ x1 x2 h; exact jX6_blockIn_2 hE (FX6_blockIn_2 n) ih σ x1 x2 h
noncomputable def FX6_blockIn (σ : Mem) (a1 : Int32) : Option (Int32 × Mem) :=
  FX6_blockIn_2 FU σ a1 (0 : Int32)
set_option maxHeartbeats 4000000 in
set_option maxRecDepth 100000 in
theorem eX6_blockIn {X : CX} {out : Int32 × Mem} (hE : Ends X SX (some (.int out.1)) out.2) (σ : Mem) (a1 : Int32) (h : FX6_blockIn σ a1 = some out) : J X SX mX6_blockIn σ 0 [(0, .ref (xad X 2)), (1, .int a1)] [] := by
  refine r_iconst dX6_blockIn_0 rfl ki_0 ?_
  refine r_istoreV_n [(2, .int (0 : Int32)), (0, .ref (xad X 2)), (1, .int a1)] dX6_blockIn_1 rfl rfl (show 2 < 3 by decide) rfl ?_
  refine r_sub [1, 2, 0] rfl ?_
  exact lX6_blockIn_2 hE FU σ a1 (0 : Int32) h
theorem coX6_blockIn (σ : Mem) (a1 : Int32) (r : Int32) (σ2 : Mem) (h : FX6_blockIn σ a1 = some (r, σ2)) : Con SX 1 yX6_blockIn cX6_blockIn 3 (some .int) (fun ad => [.ref (ad 2), .int a1]) σ (fun _ => some (.int r)) σ2 :=
  con_of (by decide +kernel) (fun _ => Nat.le_of_ble_eq_true rfl) (fun X hE => eX6_blockIn (out := (r, σ2)) hE σ a1 h)
-- IceYard$Ground fillCrack
abbrev mX1_fillCrack : MD := (cX1_fillCrack, RX1, 5, (some .long), 1)
noncomputable def BX1_fillCrack_3 (rl3 : Mem → Int64 → Int32 → Int32 → Option (Int64 × Mem)) (σ : Mem) (x1 : Int64) (x3 : Int32) (x4 : Int32) : Option (Int64 × Mem) :=
  if (σ.1 1 7) ≤ x4 then
  (some (x1, σ))
  else
  (if (4 : Int32) ≤ x4 then
  (some (x1, σ))
  else
  (rd x4 4 fun j3 =>
  if (σ.1 20 j3) = x3 then
  (some ((x1 ||| ((1 : Int64) <<< ((((36 : Int32) + x4)).toInt64 &&& 63))), σ))
  else
  (nm (x4 + (1 : Int32)) fun x_4 =>
  rl3 σ x1 x3 x_4)))
set_option maxHeartbeats 4000000 in
set_option maxRecDepth 100000 in
theorem jX1_fillCrack_3 {X : CX} {out : Int64 × Mem} (hE : Ends X SX (some (.long out.1)) out.2) (rl3 : Mem → Int64 → Int32 → Int32 → Option (Int64 × Mem)) (hr3 : ∀ (σ : Mem) (x1 : Int64) (x3 : Int32) (x4 : Int32), rl3 σ x1 x3 x4 = some out → J X SX mX1_fillCrack σ 3 [(0, .ref (xad X 1)), (1, .long x1), (3, .int x3), (4, .int x4)] []) (σ : Mem) (x1 : Int64) (x3 : Int32) (x4 : Int32) (h : BX1_fillCrack_3 rl3 σ x1 x3 x4 = some out) : J X SX mX1_fillCrack σ 3 [(0, .ref (xad X 1)), (1, .long x1), (3, .int x3), (4, .int x4)] [] := by
  refine r_iload 3 dX1_fillCrack_3 rfl rfl ?_
  refine r_aload_n 0 dX1_fillCrack_5 rfl rfl rfl ?_
  refine r_getI fg_RX1_44 rfl rfl dX1_fillCrack_6 rfl ?_
  refine r_icmp_ge dX1_fillCrack_9 rfl rfl h (fun c h => ?_) (fun c h => ?_)
  · refine r_lload_n 1 dX1_fillCrack_45 rfl rfl rfl ?_
    exact r_lret rfl dX1_fillCrack_46 h hE
  · refine r_iload 3 dX1_fillCrack_12 rfl rfl ?_
    refine r_iconst dX1_fillCrack_14 rfl ki_4 ?_
    refine r_icmp_ge dX1_fillCrack_15 rfl rfl h (fun c h => ?_) (fun c h => ?_)
    · refine r_lload_n 1 dX1_fillCrack_45 rfl rfl rfl ?_
      exact r_lret rfl dX1_fillCrack_46 h hE
    · refine r_aload_n 0 dX1_fillCrack_18 rfl rfl rfl ?_
      refine r_getR fg_RX1_18 rfl rfl dX1_fillCrack_19 rfl ?_
      refine r_iload 3 dX1_fillCrack_22 rfl rfl ?_
      refine r_iald rfl dX1_fillCrack_24 rfl h (fun j3 h => ?_)
      refine r_iload_n 2 dX1_fillCrack_25 rfl rfl rfl ?_
      refine r_icmp_ne dX1_fillCrack_26 rfl rfl h (fun c h => ?_) (fun c h => ?_)
      · refine r_iinc 3 (fun x_4 => [(4, .int x_4), (0, .ref (xad X 1)), (1, .long x1), (3, .int x3)]) dX1_fillCrack_39 rfl rfl ki_1 (show 4 < 5 by decide) (fun _ => rfl) h (fun x_4 h => ?_)
        refine r_goto dX1_fillCrack_42 rfl ?_
        refine r_sub [1, 2, 3, 0] rfl ?_
        exact hr3 σ x1 x3 x_4 h
      · refine r_lload_n 1 dX1_fillCrack_29 rfl rfl rfl ?_
        refine r_lconst dX1_fillCrack_30 rfl kl_1 ?_
        refine r_bipush dX1_fillCrack_31 rfl kb_36 ?_
        refine r_iload 3 dX1_fillCrack_33 rfl rfl ?_
        refine r_iadd dX1_fillCrack_35 rfl ?_
        refine r_lshl dX1_fillCrack_36 rfl ?_
        refine r_lor dX1_fillCrack_37 rfl ?_
        exact r_lret rfl dX1_fillCrack_38 h hE
noncomputable def FX1_fillCrack_3 (n : Nat) : Mem → Int64 → Int32 → Int32 → Option (Int64 × Mem) :=
  Nat.rec (fun _ _ _ _ => none) (fun _ ih => BX1_fillCrack_3 ih) n
theorem lX1_fillCrack_3 {X : CX} {out : Int64 × Mem} (hE : Ends X SX (some (.long out.1)) out.2) : ∀ (n : Nat) (σ : Mem) (x1 : Int64) (x3 : Int32) (x4 : Int32), FX1_fillCrack_3 n σ x1 x3 x4 = some out → J X SX mX1_fillCrack σ 3 [(0, .ref (xad X 1)), (1, .long x1), (3, .int x3), (4, .int x4)] [] := by
  intro n
  induction n with
  | zero => intro σ x1 x3 x4 h; exact nn h
  | succ n ih => intro σ x1 x3 x4 h; exact jX1_fillCrack_3 hE (FX1_fillCrack_3 n) ih σ x1 x3 x4 h
noncomputable def FX1_fillCrack (σ : Mem) (a1 : Int64) (a3 : Int32) : Option (Int64 × Mem) :=
  FX1_fillCrack_3 FU σ a1 a3 (0 : Int32)
set_option maxHeartbeats 4000000 in
set_option maxRecDepth 100000 in
theorem eX1_fillCrack {X : CX} {out : Int64 × Mem} (hE : Ends X SX (some (.long out.1)) out.2) (σ : Mem) (a1 : Int64) (a3 : Int32) (h : FX1_fillCrack σ a1 a3 = some out) : J X SX mX1_fillCrack σ 0 [(0, .ref (xad X 1)), (1, .long a1), (3, .int a3)] [] := by
  refine r_iconst dX1_fillCrack_0 rfl ki_0 ?_
  refine r_istoreV [(4, .int (0 : Int32)), (0, .ref (xad X 1)), (1, .long a1), (3, .int a3)] dX1_fillCrack_1 rfl (show 4 < 5 by decide) rfl ?_
  refine r_sub [1, 2, 3, 0] rfl ?_
  exact lX1_fillCrack_3 hE FU σ a1 a3 (0 : Int32) h
theorem coX1_fillCrack (σ : Mem) (a1 : Int64) (a3 : Int32) (r : Int64) (σ2 : Mem) (h : FX1_fillCrack σ a1 a3 = some (r, σ2)) : Con SX 1 yX1_fillCrack cX1_fillCrack 5 (some .long) (fun ad => [.ref (ad 1), .long a1, .int a3]) σ (fun _ => some (.long r)) σ2 :=
  con_of (by decide +kernel) (fun _ => Nat.le_of_ble_eq_true rfl) (fun X hE => eX1_fillCrack (out := (r, σ2)) hE σ a1 a3 h)
-- IceYard$Slider leave
abbrev mX6_leave : MD := (cX6_leave, RX6, 3, none, 2)
noncomputable def FX6_leave_59 (σ : Mem) (x1 : Int32) (s0 : Int32) : Option (Mem) :=
  nm (setI σ 2 9 s0) fun σ15 =>
  bi (FX8_withPlace σ15 (σ15.2 2 6) x1 ((37 : Int32) + (σ15.1 2 9))) fun r17 σ16 =>
  nm (setL σ16 2 6 r17) fun σ18 =>
  some σ18
set_option maxHeartbeats 4000000 in
set_option maxRecDepth 100000 in
theorem jX6_leave_59 {X : CX} {out : Mem} (hE : Ends X SX none out) (σ : Mem) (x1 : Int32) (s0 : Int32) (h : FX6_leave_59 σ x1 s0 = some out) : J X SX mX6_leave σ 59 [(0, .ref (xad X 2)), (1, .int x1)] [.int s0, .ref (xad X 2)] := by
  refine r_putI fp_RX6_39 rfl rfl dX6_leave_59 rfl h (fun σ15 h => ?_)
  refine r_aload_n 0 dX6_leave_62 rfl rfl rfl ?_
  refine r_aload_n 0 dX6_leave_63 rfl rfl rfl ?_
  refine r_getL fg_RX6_29 rfl rfl dX6_leave_64 rfl ?_
  refine r_iload_n 1 dX6_leave_67 rfl rfl rfl ?_
  refine r_bipush dX6_leave_68 rfl kb_37 ?_
  refine r_aload_n 0 dX6_leave_70 rfl rfl rfl ?_
  refine r_getI fg_RX6_39 rfl rfl dX6_leave_71 rfl ?_
  refine r_iadd dX6_leave_74 rfl ?_
  obtain ⟨r17, σ16, hc, h⟩ := bi_of h
  refine r_callN [.ref (xad X 2)] [.long r17, .ref (xad X 2)]  (coX8_withPlace σ15 (σ15.2 2 6) x1 ((37 : Int32) + (σ15.1 2 9)) r17 σ16 hc) mn_RX6_91 (by decide) rfl rfl (Nat.le_of_ble_eq_true rfl) rfl dX6_leave_75 rfl ?_
  refine r_putL fp_RX6_29 rfl rfl dX6_leave_78 rfl h (fun σ18 h => ?_)
  exact r_vret rfl dX6_leave_81 h hE
noncomputable def FX6_leave (σ : Mem) (a1 : Int32) (a2 : Int32) : Option (Mem) :=
  bi (FX8_has σ (σ.2 2 4) a2) fun r20 σ19 =>
  if r20 = 0 then
  (nm (setI σ19 2 8 a1) fun σ21 =>
  bi (FX8_has σ21 (σ21.2 1 10) a2) fun r23 σ22 =>
  if r23 = 0 then
  (FX6_leave_59 σ22 a1 (1 : Int32))
  else
  (FX6_leave_59 σ22 a1 (0 : Int32)))
  else
  (bi (FX8_withPlace σ19 (σ19.2 2 6) a1 (36 : Int32)) fun r25 σ24 =>
  bi (FX1_fillCrack σ24 r25 a2) fun r27 σ26 =>
  nm (setL σ26 2 6 r27) fun σ28 =>
  some σ28)
set_option maxHeartbeats 4000000 in
set_option maxRecDepth 100000 in
theorem eX6_leave {X : CX} {out : Mem} (hE : Ends X SX none out) (σ : Mem) (a1 : Int32) (a2 : Int32) (h : FX6_leave σ a1 a2 = some out) : J X SX mX6_leave σ 0 [(0, .ref (xad X 2)), (1, .int a1), (2, .int a2)] [] := by
  refine r_aload_n 0 dX6_leave_0 rfl rfl rfl ?_
  refine r_getL fg_RX6_66 rfl rfl dX6_leave_1 rfl ?_
  refine r_iload_n 2 dX6_leave_4 rfl rfl rfl ?_
  obtain ⟨r20, σ19, hc, h⟩ := bi_of h
  refine r_callN [] [.int r20]  (coX8_has σ (σ.2 2 4) a2 r20 σ19 hc) mn_RX6_87 (by decide) rfl rfl (Nat.le_of_ble_eq_true rfl) rfl dX6_leave_5 rfl ?_
  refine r_if_eq dX6_leave_8 rfl rfl h (fun c h => ?_) (fun c h => ?_)
  · refine r_aload_n 0 dX6_leave_34 rfl rfl rfl ?_
    refine r_iload_n 1 dX6_leave_35 rfl rfl rfl ?_
    refine r_putI fp_RX6_35 rfl rfl dX6_leave_36 rfl h (fun σ21 h => ?_)
    refine r_aload_n 0 dX6_leave_39 rfl rfl rfl ?_
    refine r_aload_n 0 dX6_leave_40 rfl rfl rfl ?_
    refine r_getR fg_RX6_21 rfl rfl dX6_leave_41 rfl ?_
    refine r_getL fg_RX6_78 rfl rfl dX6_leave_44 rfl ?_
    refine r_iload_n 2 dX6_leave_47 rfl rfl rfl ?_
    obtain ⟨r23, σ22, hc, h⟩ := bi_of h
    refine r_callN [.ref (xad X 2)] [.int r23, .ref (xad X 2)]  (coX8_has σ21 (σ21.2 1 10) a2 r23 σ22 hc) mn_RX6_87 (by decide) rfl rfl (Nat.le_of_ble_eq_true rfl) rfl dX6_leave_48 rfl ?_
    refine r_if_eq dX6_leave_51 rfl rfl h (fun c h => ?_) (fun c h => ?_)
    · refine r_iconst dX6_leave_58 rfl ki_1 ?_
      refine r_sub [0, 1] rfl ?_
      exact jX6_leave_59 hE σ22 a1 (1 : Int32) h
    · refine r_iconst dX6_leave_54 rfl ki_0 ?_
      refine r_goto dX6_leave_55 rfl ?_
      refine r_sub [0, 1] rfl ?_
      exact jX6_leave_59 hE σ22 a1 (0 : Int32) h
  · refine r_aload_n 0 dX6_leave_11 rfl rfl rfl ?_
    refine r_aload_n 0 dX6_leave_12 rfl rfl rfl ?_
    refine r_getR fg_RX6_21 rfl rfl dX6_leave_13 rfl ?_
    refine r_aload_n 0 dX6_leave_16 rfl rfl rfl ?_
    refine r_getL fg_RX6_29 rfl rfl dX6_leave_17 rfl ?_
    refine r_iload_n 1 dX6_leave_20 rfl rfl rfl ?_
    refine r_bipush dX6_leave_21 rfl kb_36 ?_
    obtain ⟨r25, σ24, hc, h⟩ := bi_of h
    refine r_callN [.ref (xad X 1), .ref (xad X 2)] [.long r25, .ref (xad X 1), .ref (xad X 2)]  (coX8_withPlace σ19 (σ19.2 2 6) a1 (36 : Int32) r25 σ24 hc) mn_RX6_91 (by decide) rfl rfl (Nat.le_of_ble_eq_true rfl) rfl dX6_leave_23 rfl ?_
    refine r_iload_n 2 dX6_leave_26 rfl rfl rfl ?_
    obtain ⟨r27, σ26, hc, h⟩ := bi_of h
    refine r_callV [.long r25, .int a2] [.ref (xad X 2)] [.long r27, .ref (xad X 2)]  (coX1_fillCrack σ24 r25 a2 r27 σ26 hc) mv_RX6_102 (by decide) rfl rfl rfl rfl rfl (Nat.le_of_ble_eq_true rfl) rfl dX6_leave_27 rfl ?_
    refine r_putL fp_RX6_29 rfl rfl dX6_leave_30 rfl h (fun σ28 h => ?_)
    exact r_vret rfl dX6_leave_33 h hE
theorem coX6_leave (σ : Mem) (a1 : Int32) (a2 : Int32) (σ2 : Mem) (h : FX6_leave σ a1 a2 = some σ2) : Con SX 2 yX6_leave cX6_leave 3 none (fun ad => [.ref (ad 2), .int a1, .int a2]) σ (fun _ => none) σ2 :=
  con_of (by decide +kernel) (fun _ => Nat.le_of_ble_eq_true rfl) (fun X hE => eX6_leave (out := σ2) hE σ a1 a2 h)

-- java.util.Arrays fill
abbrev mJ7_fill_53178 : MD := (cJ7_fill_53178, RJ7, 4, none, 1)
noncomputable def BJ7_fill_53178_5 (o n0 : Nat) (rl5 : Mem → Int32 → Int32 → Int32 → Option (Mem)) (σ : Mem) (x1 : Int32) (x2 : Int32) (x3 : Int32) : Option (Mem) :=
  if x3 ≤ x2 then
  (some σ)
  else
  (stI σ o n0 x2 x1 fun σ4 =>
  nm (x2 + (1 : Int32)) fun x_5 =>
  rl5 σ4 x1 x_5 x3)
set_option maxHeartbeats 4000000 in
set_option maxRecDepth 100000 in
theorem jJ7_fill_53178_5 {X : CX} {out : Mem} (o n0 : Nat) (hA : SX[o]? = some (1, n0, [])) (hE : Ends X SX none out) (rl5 : Mem → Int32 → Int32 → Int32 → Option (Mem)) (hr5 : ∀ (σ : Mem) (x1 : Int32) (x2 : Int32) (x3 : Int32), rl5 σ x1 x2 x3 = some out → J X SX mJ7_fill_53178 σ 5 [(0, .ref (xad X o)), (1, .int x1), (2, .int x2), (3, .int x3)] []) (σ : Mem) (x1 : Int32) (x2 : Int32) (x3 : Int32) (h : BJ7_fill_53178_5 o n0 rl5 σ x1 x2 x3 = some out) : J X SX mJ7_fill_53178 σ 5 [(0, .ref (xad X o)), (1, .int x1), (2, .int x2), (3, .int x3)] [] := by
  refine r_iload_n 2 dJ7_fill_53178_5 rfl rfl rfl ?_
  refine r_iload_n 3 dJ7_fill_53178_6 rfl rfl rfl ?_
  refine r_icmp_ge dJ7_fill_53178_7 rfl rfl h (fun c h => ?_) (fun c h => ?_)
  · exact r_vret rfl dJ7_fill_53178_20 h hE
  · refine r_aload_n 0 dJ7_fill_53178_10 rfl rfl rfl ?_
    refine r_iload_n 2 dJ7_fill_53178_11 rfl rfl rfl ?_
    refine r_iload_n 1 dJ7_fill_53178_12 rfl rfl rfl ?_
    refine r_iast hA dJ7_fill_53178_13 rfl h (fun σ4 h => ?_)
    refine r_iinc 2 (fun x_5 => [(2, .int x_5), (0, .ref (xad X o)), (1, .int x1), (3, .int x3)]) dJ7_fill_53178_14 rfl rfl ki_1 (show 2 < 4 by decide) (fun _ => rfl) h (fun x_5 h => ?_)
    refine r_goto dJ7_fill_53178_17 rfl ?_
    refine r_sub [1, 2, 0, 3] rfl ?_
    exact hr5 σ4 x1 x_5 x3 h
noncomputable def FJ7_fill_53178_5 (o n0 : Nat) (n : Nat) : Mem → Int32 → Int32 → Int32 → Option (Mem) :=
  Nat.rec (fun _ _ _ _ => none) (fun _ ih => BJ7_fill_53178_5 o n0 ih) n
theorem lJ7_fill_53178_5 {X : CX} {out : Mem} (o n0 : Nat) (hA : SX[o]? = some (1, n0, [])) (hE : Ends X SX none out) : ∀ (n : Nat) (σ : Mem) (x1 : Int32) (x2 : Int32) (x3 : Int32), FJ7_fill_53178_5 o n0 n σ x1 x2 x3 = some out → J X SX mJ7_fill_53178 σ 5 [(0, .ref (xad X o)), (1, .int x1), (2, .int x2), (3, .int x3)] [] := by
  intro n
  induction n with
  | zero => intro σ x1 x2 x3 h; exact nn h
  | succ n ih => intro σ x1 x2 x3 h; exact jJ7_fill_53178_5 o n0 hA hE (FJ7_fill_53178_5 o n0 n) ih σ x1 x2 x3 h
noncomputable def FJ7_fill_53178 (o n0 : Nat) (σ : Mem) (a1 : Int32) : Option (Mem) :=
  nm (Int32.ofNat n0) fun x_6 =>
  FJ7_fill_53178_5 o n0 FU σ a1 (0 : Int32) x_6
set_option maxHeartbeats 4000000 in
set_option maxRecDepth 100000 in
theorem eJ7_fill_53178 {X : CX} {out : Mem} (o n0 : Nat) (hA : SX[o]? = some (1, n0, [])) (hE : Ends X SX none out) (σ : Mem) (a1 : Int32) (h : FJ7_fill_53178 o n0 σ a1 = some out) : J X SX mJ7_fill_53178 σ 0 [(0, .ref (xad X o)), (1, .int a1)] [] := by
  refine r_iconst dJ7_fill_53178_0 rfl ki_0 ?_
  refine r_istoreV_n [(2, .int (0 : Int32)), (0, .ref (xad X o)), (1, .int a1)] dJ7_fill_53178_1 rfl rfl (show 2 < 4 by decide) rfl ?_
  refine r_aload_n 1 dJ7_fill_53178_2 rfl rfl rfl ?_
  refine r_alen hA (by decide) rfl dJ7_fill_53178_3 rfl ?_
  refine r_istore_n (fun x_6 => [(3, .int x_6), (2, .int (0 : Int32)), (0, .ref (xad X o)), (1, .int a1)]) dJ7_fill_53178_4 rfl rfl (show 3 < 4 by decide) (fun _ => rfl) h (fun x_6 h => ?_)
  refine r_sub [2, 3, 1, 0] rfl ?_
  exact lJ7_fill_53178_5 o n0 hA hE FU σ a1 (0 : Int32) x_6 h
theorem coJ7_fill_53178 (o n0 : Nat) (hA : SX[o]? = some (1, n0, [])) (σ : Mem) (a1 : Int32) (σ2 : Mem) (h : FJ7_fill_53178 o n0 σ a1 = some σ2) : Con SX 1 yJ7_fill_53178 cJ7_fill_53178 4 none (fun ad => [.ref (ad o), .int a1]) σ (fun _ => none) σ2 :=
  con_of (by decide +kernel) (fun _ => Nat.le_of_ble_eq_true rfl) (fun X hE => eJ7_fill_53178 o n0 hA (out := σ2) hE σ a1 h)
-- java.lang.Long bitCount
abbrev mJ13_bitCount_95d88 : MD := (cJ13_bitCount_95d88, RJ13, 2, (some .int), 1)
noncomputable def FJ13_bitCount_95d88 (σ : Mem) (a0 : Int64) : Option (Int32 × Mem) :=
  nm (a0 - ((((a0).toUInt64 >>> (((1 : Int32)).toInt64.toUInt64 &&& Int64.toUInt64 63)).toInt64) &&& (6148914691236517205 : Int64))) fun x_7 =>
  nm ((x_7 &&& (3689348814741910323 : Int64)) + ((((x_7).toUInt64 >>> (((2 : Int32)).toInt64.toUInt64 &&& Int64.toUInt64 63)).toInt64) &&& (3689348814741910323 : Int64))) fun x_8 =>
  nm ((x_8 + (((x_8).toUInt64 >>> (((4 : Int32)).toInt64.toUInt64 &&& Int64.toUInt64 63)).toInt64)) &&& (1085102592571150095 : Int64)) fun x_9 =>
  nm (x_9 + (((x_9).toUInt64 >>> (((8 : Int32)).toInt64.toUInt64 &&& Int64.toUInt64 63)).toInt64)) fun x_10 =>
  nm (x_10 + (((x_10).toUInt64 >>> (((16 : Int32)).toInt64.toUInt64 &&& Int64.toUInt64 63)).toInt64)) fun x_11 =>
  nm (x_11 + (((x_11).toUInt64 >>> (((32 : Int32)).toInt64.toUInt64 &&& Int64.toUInt64 63)).toInt64)) fun x_12 =>
  some ((((x_12).toInt32) &&& (127 : Int32)), σ)
set_option maxHeartbeats 4000000 in
set_option maxRecDepth 100000 in
theorem eJ13_bitCount_95d88 {X : CX} {out : Int32 × Mem} (hE : Ends X SX (some (.int out.1)) out.2) (σ : Mem) (a0 : Int64) (h : FJ13_bitCount_95d88 σ a0 = some out) : J X SX mJ13_bitCount_95d88 σ 0 [(0, .long a0)] [] := by
  refine r_lload_n 0 dJ13_bitCount_95d88_0 rfl rfl rfl ?_
  refine r_lload_n 0 dJ13_bitCount_95d88_1 rfl rfl rfl ?_
  refine r_iconst dJ13_bitCount_95d88_2 rfl ki_1 ?_
  refine r_lushr dJ13_bitCount_95d88_3 rfl ?_
  refine r_ldc2 dJ13_bitCount_95d88_4 rfl cl_RJ13_314 ?_
  refine r_land dJ13_bitCount_95d88_7 rfl ?_
  refine r_lsub dJ13_bitCount_95d88_8 rfl ?_
  refine r_lstore_n (fun x_7 => [(0, .long x_7)]) dJ13_bitCount_95d88_9 rfl rfl (show 0 + 1 < 2 by decide) (fun _ => rfl) h (fun x_7 h => ?_)
  refine r_lload_n 0 dJ13_bitCount_95d88_10 rfl rfl rfl ?_
  refine r_ldc2 dJ13_bitCount_95d88_11 rfl cl_RJ13_316 ?_
  refine r_land dJ13_bitCount_95d88_14 rfl ?_
  refine r_lload_n 0 dJ13_bitCount_95d88_15 rfl rfl rfl ?_
  refine r_iconst dJ13_bitCount_95d88_16 rfl ki_2 ?_
  refine r_lushr dJ13_bitCount_95d88_17 rfl ?_
  refine r_ldc2 dJ13_bitCount_95d88_18 rfl cl_RJ13_316 ?_
  refine r_land dJ13_bitCount_95d88_21 rfl ?_
  refine r_ladd dJ13_bitCount_95d88_22 rfl ?_
  refine r_lstore_n (fun x_8 => [(0, .long x_8)]) dJ13_bitCount_95d88_23 rfl rfl (show 0 + 1 < 2 by decide) (fun _ => rfl) h (fun x_8 h => ?_)
  refine r_lload_n 0 dJ13_bitCount_95d88_24 rfl rfl rfl ?_
  refine r_lload_n 0 dJ13_bitCount_95d88_25 rfl rfl rfl ?_
  refine r_iconst dJ13_bitCount_95d88_26 rfl ki_4 ?_
  refine r_lushr dJ13_bitCount_95d88_27 rfl ?_
  refine r_ladd dJ13_bitCount_95d88_28 rfl ?_
  refine r_ldc2 dJ13_bitCount_95d88_29 rfl cl_RJ13_318 ?_
  refine r_land dJ13_bitCount_95d88_32 rfl ?_
  refine r_lstore_n (fun x_9 => [(0, .long x_9)]) dJ13_bitCount_95d88_33 rfl rfl (show 0 + 1 < 2 by decide) (fun _ => rfl) h (fun x_9 h => ?_)
  refine r_lload_n 0 dJ13_bitCount_95d88_34 rfl rfl rfl ?_
  refine r_lload_n 0 dJ13_bitCount_95d88_35 rfl rfl rfl ?_
  refine r_bipush dJ13_bitCount_95d88_36 rfl kb_8 ?_
  refine r_lushr dJ13_bitCount_95d88_38 rfl ?_
  refine r_ladd dJ13_bitCount_95d88_39 rfl ?_
  refine r_lstore_n (fun x_10 => [(0, .long x_10)]) dJ13_bitCount_95d88_40 rfl rfl (show 0 + 1 < 2 by decide) (fun _ => rfl) h (fun x_10 h => ?_)
  refine r_lload_n 0 dJ13_bitCount_95d88_41 rfl rfl rfl ?_
  refine r_lload_n 0 dJ13_bitCount_95d88_42 rfl rfl rfl ?_
  refine r_bipush dJ13_bitCount_95d88_43 rfl kb_16 ?_
  refine r_lushr dJ13_bitCount_95d88_45 rfl ?_
  refine r_ladd dJ13_bitCount_95d88_46 rfl ?_
  refine r_lstore_n (fun x_11 => [(0, .long x_11)]) dJ13_bitCount_95d88_47 rfl rfl (show 0 + 1 < 2 by decide) (fun _ => rfl) h (fun x_11 h => ?_)
  refine r_lload_n 0 dJ13_bitCount_95d88_48 rfl rfl rfl ?_
  refine r_lload_n 0 dJ13_bitCount_95d88_49 rfl rfl rfl ?_
  refine r_bipush dJ13_bitCount_95d88_50 rfl kb_32 ?_
  refine r_lushr dJ13_bitCount_95d88_52 rfl ?_
  refine r_ladd dJ13_bitCount_95d88_53 rfl ?_
  refine r_lstore_n (fun x_12 => [(0, .long x_12)]) dJ13_bitCount_95d88_54 rfl rfl (show 0 + 1 < 2 by decide) (fun _ => rfl) h (fun x_12 h => ?_)
  refine r_lload_n 0 dJ13_bitCount_95d88_55 rfl rfl rfl ?_
  refine r_l2i dJ13_bitCount_95d88_56 rfl ?_
  refine r_bipush dJ13_bitCount_95d88_57 rfl kb_127 ?_
  refine r_iand dJ13_bitCount_95d88_59 rfl ?_
  exact r_iret rfl dJ13_bitCount_95d88_60 h hE
theorem coJ13_bitCount_95d88 (σ : Mem) (a0 : Int64) (r : Int32) (σ2 : Mem) (h : FJ13_bitCount_95d88 σ a0 = some (r, σ2)) : Con SX 1 yJ13_bitCount_95d88 cJ13_bitCount_95d88 2 (some .int) (fun ad => [.long a0]) σ (fun _ => some (.int r)) σ2 :=
  con_of (by decide +kernel) (fun _ => Nat.le_of_ble_eq_true rfl) (fun X hE => eJ13_bitCount_95d88 (out := (r, σ2)) hE σ a0 h)
-- java.util.Arrays fill
abbrev mJ7_fill_d0a16 : MD := (cJ7_fill_d0a16, RJ7, 5, none, 1)
noncomputable def BJ7_fill_d0a16_6 (o n0 : Nat) (rl6 : Mem → Int64 → Int32 → Int32 → Option (Mem)) (σ : Mem) (x1 : Int64) (x3 : Int32) (x4 : Int32) : Option (Mem) :=
  if x4 ≤ x3 then
  (some σ)
  else
  (stL σ o n0 x3 x1 fun σ4 =>
  nm (x3 + (1 : Int32)) fun x_5 =>
  rl6 σ4 x1 x_5 x4)
set_option maxHeartbeats 4000000 in
set_option maxRecDepth 100000 in
theorem jJ7_fill_d0a16_6 {X : CX} {out : Mem} (o n0 : Nat) (hA : SX[o]? = some (3, n0, [])) (hE : Ends X SX none out) (rl6 : Mem → Int64 → Int32 → Int32 → Option (Mem)) (hr6 : ∀ (σ : Mem) (x1 : Int64) (x3 : Int32) (x4 : Int32), rl6 σ x1 x3 x4 = some out → J X SX mJ7_fill_d0a16 σ 6 [(0, .ref (xad X o)), (1, .long x1), (3, .int x3), (4, .int x4)] []) (σ : Mem) (x1 : Int64) (x3 : Int32) (x4 : Int32) (h : BJ7_fill_d0a16_6 o n0 rl6 σ x1 x3 x4 = some out) : J X SX mJ7_fill_d0a16 σ 6 [(0, .ref (xad X o)), (1, .long x1), (3, .int x3), (4, .int x4)] [] := by
  refine r_iload_n 2 dJ7_fill_d0a16_6 rfl rfl rfl ?_
  refine r_iload 3 dJ7_fill_d0a16_7 rfl rfl ?_
  refine r_icmp_ge dJ7_fill_d0a16_9 rfl rfl h (fun c h => ?_) (fun c h => ?_)
  · exact r_vret rfl dJ7_fill_d0a16_22 h hE
  · refine r_aload_n 0 dJ7_fill_d0a16_12 rfl rfl rfl ?_
    refine r_iload_n 2 dJ7_fill_d0a16_13 rfl rfl rfl ?_
    refine r_lload_n 1 dJ7_fill_d0a16_14 rfl rfl rfl ?_
    refine r_last hA dJ7_fill_d0a16_15 rfl h (fun σ4 h => ?_)
    refine r_iinc 2 (fun x_5 => [(3, .int x_5), (0, .ref (xad X o)), (1, .long x1), (4, .int x4)]) dJ7_fill_d0a16_16 rfl rfl ki_1 (show 3 < 5 by decide) (fun _ => rfl) h (fun x_5 h => ?_)
    refine r_goto dJ7_fill_d0a16_19 rfl ?_
    refine r_sub [1, 2, 0, 3] rfl ?_
    exact hr6 σ4 x1 x_5 x4 h
noncomputable def FJ7_fill_d0a16_6 (o n0 : Nat) (n : Nat) : Mem → Int64 → Int32 → Int32 → Option (Mem) :=
  Nat.rec (fun _ _ _ _ => none) (fun _ ih => BJ7_fill_d0a16_6 o n0 ih) n
theorem lJ7_fill_d0a16_6 {X : CX} {out : Mem} (o n0 : Nat) (hA : SX[o]? = some (3, n0, [])) (hE : Ends X SX none out) : ∀ (n : Nat) (σ : Mem) (x1 : Int64) (x3 : Int32) (x4 : Int32), FJ7_fill_d0a16_6 o n0 n σ x1 x3 x4 = some out → J X SX mJ7_fill_d0a16 σ 6 [(0, .ref (xad X o)), (1, .long x1), (3, .int x3), (4, .int x4)] [] := by
  intro n
  induction n with
  | zero => intro σ x1 x3 x4 h; exact nn h
  | succ n ih => intro σ x1 x3 x4 h; exact jJ7_fill_d0a16_6 o n0 hA hE (FJ7_fill_d0a16_6 o n0 n) ih σ x1 x3 x4 h
noncomputable def FJ7_fill_d0a16 (o n0 : Nat) (σ : Mem) (a1 : Int64) : Option (Mem) :=
  nm (Int32.ofNat n0) fun x_6 =>
  FJ7_fill_d0a16_6 o n0 FU σ a1 (0 : Int32) x_6
set_option maxHeartbeats 4000000 in
set_option maxRecDepth 100000 in
theorem eJ7_fill_d0a16 {X : CX} {out : Mem} (o n0 : Nat) (hA : SX[o]? = some (3, n0, [])) (hE : Ends X SX none out) (σ : Mem) (a1 : Int64) (h : FJ7_fill_d0a16 o n0 σ a1 = some out) : J X SX mJ7_fill_d0a16 σ 0 [(0, .ref (xad X o)), (1, .long a1)] [] := by
  refine r_iconst dJ7_fill_d0a16_0 rfl ki_0 ?_
  refine r_istoreV_n [(3, .int (0 : Int32)), (0, .ref (xad X o)), (1, .long a1)] dJ7_fill_d0a16_1 rfl rfl (show 3 < 5 by decide) rfl ?_
  refine r_aload_n 1 dJ7_fill_d0a16_2 rfl rfl rfl ?_
  refine r_alen hA (by decide) rfl dJ7_fill_d0a16_3 rfl ?_
  refine r_istore (fun x_6 => [(4, .int x_6), (3, .int (0 : Int32)), (0, .ref (xad X o)), (1, .long a1)]) dJ7_fill_d0a16_4 rfl (show 4 < 5 by decide) (fun _ => rfl) h (fun x_6 h => ?_)
  refine r_sub [2, 3, 1, 0] rfl ?_
  exact lJ7_fill_d0a16_6 o n0 hA hE FU σ a1 (0 : Int32) x_6 h
theorem coJ7_fill_d0a16 (o n0 : Nat) (hA : SX[o]? = some (3, n0, [])) (σ : Mem) (a1 : Int64) (σ2 : Mem) (h : FJ7_fill_d0a16 o n0 σ a1 = some σ2) : Con SX 1 yJ7_fill_d0a16 cJ7_fill_d0a16 5 none (fun ad => [.ref (ad o), .long a1]) σ (fun _ => none) σ2 :=
  con_of (by decide +kernel) (fun _ => Nat.le_of_ble_eq_true rfl) (fun X hE => eJ7_fill_d0a16 o n0 hA (out := σ2) hE σ a1 h)

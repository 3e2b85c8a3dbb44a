-- IceYardModel placeFor
abbrev mX9_placeFor : MD := (cX9_placeFor, RX9, 4, (some .int), 1)
noncomputable def BX9_placeFor_7 (rl7 : Mem → Int64 → Int32 → Option (Int32 × Mem)) (σ : Mem) (x1 : Int64) (x3 : Int32) : Option (Int32 × Mem) :=
  rd x3 4096 fun j6 =>
  if (σ.1 18 j6) = 0 then
  (some (x3, σ))
  else
  (rd x3 4096 fun j7 =>
  rd ((σ.1 18 j7) - (1 : Int32)) 1501 fun j8 =>
  if (lg_cmp (σ.2 15 j8) x1) = 0 then
  (some (x3, σ))
  else
  (dzI (4096 : Int32) <|
  nm ((x3 + (1 : Int32)) - (x3 + (1 : Int32)) / (4096 : Int32) * (4096 : Int32)) fun x_9 =>
  rl7 σ x1 x_9))
set_option maxHeartbeats 4000000 in
set_option maxRecDepth 100000 in
theorem jX9_placeFor_7 {X : CX} {out : Int32 × Mem} (hE : Ends X SM (some (.int out.1)) out.2) (rl7 : Mem → Int64 → Int32 → Option (Int32 × Mem)) (hr7 : ∀ (σ : Mem) (x1 : Int64) (x3 : Int32), rl7 σ x1 x3 = some out → J X SM mX9_placeFor σ 7 [(0, .ref (xad X 0)), (1, .long x1), (3, .int x3)] []) (σ : Mem) (x1 : Int64) (x3 : Int32) (h : BX9_placeFor_7 rl7 σ x1 x3 = some out) : J X SM mX9_placeFor σ 7 [(0, .ref (xad X 0)), (1, .long x1), (3, .int x3)] [] := by
  refine r_aload_n 0 dX9_placeFor_7 rfl rfl rfl ?_
  refine r_getR fg_RX9_63 rfl rfl dX9_placeFor_8 rfl ?_
  refine r_iload_n 2 dX9_placeFor_11 rfl rfl rfl ?_
  refine r_iald rfl dX9_placeFor_12 rfl h (fun j6 h => ?_)
  refine r_if_eq dX9_placeFor_13 rfl rfl h (fun c h => ?_) (fun c h => ?_)
  · refine r_iload_n 2 dX9_placeFor_45 rfl rfl rfl ?_
    exact r_iret rfl dX9_placeFor_46 h hE
  · refine r_aload_n 0 dX9_placeFor_16 rfl rfl rfl ?_
    refine r_getR fg_RX9_54 rfl rfl dX9_placeFor_17 rfl ?_
    refine r_aload_n 0 dX9_placeFor_20 rfl rfl rfl ?_
    refine r_getR fg_RX9_63 rfl rfl dX9_placeFor_21 rfl ?_
    refine r_iload_n 2 dX9_placeFor_24 rfl rfl rfl ?_
    refine r_iald rfl dX9_placeFor_25 rfl h (fun j7 h => ?_)
    refine r_iconst dX9_placeFor_26 rfl ki_1 ?_
    refine r_isub dX9_placeFor_27 rfl ?_
    refine r_lald rfl dX9_placeFor_28 rfl h (fun j8 h => ?_)
    refine r_lload_n 1 dX9_placeFor_29 rfl rfl rfl ?_
    refine r_lcmp dX9_placeFor_30 rfl ?_
    refine r_if_eq dX9_placeFor_31 rfl rfl h (fun c h => ?_) (fun c h => ?_)
    · refine r_iload_n 2 dX9_placeFor_45 rfl rfl rfl ?_
      exact r_iret rfl dX9_placeFor_46 h hE
    · refine r_iload_n 2 dX9_placeFor_34 rfl rfl rfl ?_
      refine r_iconst dX9_placeFor_35 rfl ki_1 ?_
      refine r_iadd dX9_placeFor_36 rfl ?_
      refine r_sipush dX9_placeFor_37 rfl ks_4096 ?_
      refine r_irem dX9_placeFor_40 rfl h (fun h => ?_)
      refine r_istore_n (fun x_9 => [(3, .int x_9), (0, .ref (xad X 0)), (1, .long x1)]) dX9_placeFor_41 rfl rfl (show 3 < 4 by decide) (fun _ => rfl) h (fun x_9 h => ?_)
      refine r_goto dX9_placeFor_42 rfl ?_
      refine r_sub [1, 2, 0] rfl ?_
      exact hr7 σ x1 x_9 h
noncomputable def FX9_placeFor_7 (n : Nat) : Mem → Int64 → Int32 → Option (Int32 × Mem) :=
  Nat.rec (fun _ _ _ => none) (fun _ ih => BX9_placeFor_7 ih) n
theorem lX9_placeFor_7 {X : CX} {out : Int32 × Mem} (hE : Ends X SM (some (.int out.1)) out.2) : ∀ (n : Nat) (σ : Mem) (x1 : Int64) (x3 : Int32), FX9_placeFor_7 n σ x1 x3 = some out → J X SM mX9_placeFor σ 7 [(0, .ref (xad X 0)), (1, .long x1), (3, .int x3)] [] := by
  intro n
  induction n with
  | zero => intro σ x1 x3 h; exact nn h
  | succ n ih => intro σ x1 x3 h; exact jX9_placeFor_7 hE (FX9_placeFor_7 n) ih σ x1 x3 h
noncomputable def FX9_placeFor (σ : Mem) (a1 : Int64) : Option (Int32 × Mem) :=
  dzL (4093 : Int64) <|
  nm (((a1 - a1 / (4093 : Int64) * (4093 : Int64))).toInt32) fun x_10 =>
  FX9_placeFor_7 FU σ a1 x_10
set_option maxHeartbeats 4000000 in
set_option maxRecDepth 100000 in
theorem eX9_placeFor {X : CX} {out : Int32 × Mem} (hE : Ends X SM (some (.int out.1)) out.2) (σ : Mem) (a1 : Int64) (h : FX9_placeFor σ a1 = some out) : J X SM mX9_placeFor σ 0 [(0, .ref (xad X 0)), (1, .long a1)] [] := by
  refine r_lload_n 1 dX9_placeFor_0 rfl rfl rfl ?_
  refine r_ldc2 dX9_placeFor_1 rfl cl_RX9_237 ?_
  refine r_lrem dX9_placeFor_4 rfl h (fun h => ?_)
  refine r_l2i dX9_placeFor_5 rfl ?_
  refine r_istore_n (fun x_10 => [(3, .int x_10), (0, .ref (xad X 0)), (1, .long a1)]) dX9_placeFor_6 rfl rfl (show 3 < 4 by decide) (fun _ => rfl) h (fun x_10 h => ?_)
  refine r_sub [1, 2, 0] rfl ?_
  exact lX9_placeFor_7 hE FU σ a1 x_10 h
theorem coX9_placeFor (σ : Mem) (a1 : Int64) (r : Int32) (σ2 : Mem) (h : FX9_placeFor σ a1 = some (r, σ2)) : Con SM 1 yX9_placeFor cX9_placeFor 4 (some .int) (fun ad => [.ref (ad 0), .long a1]) σ (fun _ => some (.int r)) σ2 :=
  con_of (by decide +kernel) (fun _ => Nat.le_of_ble_eq_true rfl) (fun X hE => eX9_placeFor (out := (r, σ2)) hE σ a1 h)
-- IceYardModel addYard
abbrev mX9_addYard : MD := (cX9_addYard, RX9, 6, (some .boolean), 2)
noncomputable def FX9_addYard (σ : Mem) (a1 : Int64) (a3 : Int32) (a4 : Int32) : Option (Int32 × Mem) :=
  bi (FX9_placeFor σ a1) fun r10 σ9 =>
  rd r10 4096 fun j11 =>
  if (σ9.1 18 j11) = 0 then
  (if (σ9.1 0 32) = (1500 : Int32) then
  (rz (0 : Int32) σ9)
  else
  (stL σ9 15 1501 (σ9.1 0 32) a1 fun σ12 =>
  stI σ12 16 1501 (σ12.1 0 32) a3 fun σ13 =>
  stI σ13 17 1501 (σ13.1 0 32) a4 fun σ14 =>
  nm (setI σ14 0 32 ((σ14.1 0 32) + (1 : Int32))) fun σ15 =>
  stI σ15 18 4096 r10 (σ15.1 0 32) fun σ16 =>
  rz (1 : Int32) σ16))
  else
  (rz (1 : Int32) σ9)
set_option maxHeartbeats 4000000 in
set_option maxRecDepth 100000 in
theorem eX9_addYard {X : CX} {out : Int32 × Mem} (hE : Ends X SM (some (.int out.1)) out.2) (σ : Mem) (a1 : Int64) (a3 : Int32) (a4 : Int32) (h : FX9_addYard σ a1 a3 a4 = some out) : J X SM mX9_addYard σ 0 [(0, .ref (xad X 0)), (1, .long a1), (3, .int a3), (4, .int a4)] [] := by
  refine r_aload_n 0 dX9_addYard_0 rfl rfl rfl ?_
  refine r_lload_n 1 dX9_addYard_1 rfl rfl rfl ?_
  obtain ⟨r10, σ9, hc, h⟩ := bi_of h
  refine r_callV [.long a1] [] [.int r10]  (coX9_placeFor σ a1 r10 σ9 hc) mv_RX9_239 (by decide) rfl rfl rfl rfl rfl (Nat.le_of_ble_eq_true rfl) rfl dX9_addYard_2 rfl ?_
  refine r_istoreV [(5, .int r10), (0, .ref (xad X 0)), (1, .long a1), (3, .int a3), (4, .int a4)] dX9_addYard_5 rfl (show 5 < 6 by decide) rfl ?_
  refine r_aload_n 1 dX9_addYard_7 rfl rfl rfl ?_
  refine r_getR fg_RX9_63 rfl rfl dX9_addYard_8 rfl ?_
  refine r_iload 0 dX9_addYard_11 rfl rfl ?_
  refine r_iald rfl dX9_addYard_13 rfl h (fun j11 h => ?_)
  refine r_if_eq dX9_addYard_14 rfl rfl h (fun c h => ?_) (fun c h => ?_)
  · refine r_aload_n 1 dX9_addYard_19 rfl rfl rfl ?_
    refine r_getI fg_RX9_243 rfl rfl dX9_addYard_20 rfl ?_
    refine r_sipush dX9_addYard_23 rfl ks_1500 ?_
    refine r_icmp_ne dX9_addYard_26 rfl rfl h (fun c h => ?_) (fun c h => ?_)
    · refine r_aload_n 1 dX9_addYard_31 rfl rfl rfl ?_
      refine r_getR fg_RX9_54 rfl rfl dX9_addYard_32 rfl ?_
      refine r_aload_n 1 dX9_addYard_35 rfl rfl rfl ?_
      refine r_getI fg_RX9_243 rfl rfl dX9_addYard_36 rfl ?_
      refine r_lload_n 2 dX9_addYard_39 rfl rfl rfl ?_
      refine r_last rfl dX9_addYard_40 rfl h (fun σ12 h => ?_)
      refine r_aload_n 1 dX9_addYard_41 rfl rfl rfl ?_
      refine r_getR fg_RX9_57 rfl rfl dX9_addYard_42 rfl ?_
      refine r_aload_n 1 dX9_addYard_45 rfl rfl rfl ?_
      refine r_getI fg_RX9_243 rfl rfl dX9_addYard_46 rfl ?_
      refine r_iload_n 3 dX9_addYard_49 rfl rfl rfl ?_
      refine r_iast rfl dX9_addYard_50 rfl h (fun σ13 h => ?_)
      refine r_aload_n 1 dX9_addYard_51 rfl rfl rfl ?_
      refine r_getR fg_RX9_60 rfl rfl dX9_addYard_52 rfl ?_
      refine r_aload_n 1 dX9_addYard_55 rfl rfl rfl ?_
      refine r_getI fg_RX9_243 rfl rfl dX9_addYard_56 rfl ?_
      refine r_iload 4 dX9_addYard_59 rfl rfl ?_
      refine r_iast rfl dX9_addYard_61 rfl h (fun σ14 h => ?_)
      refine r_aload_n 1 dX9_addYard_62 rfl rfl rfl ?_
      refine r_dup dX9_addYard_63 rfl rfl ?_
      refine r_getI fg_RX9_243 rfl rfl dX9_addYard_64 rfl ?_
      refine r_iconst dX9_addYard_67 rfl ki_1 ?_
      refine r_iadd dX9_addYard_68 rfl ?_
      refine r_putI fp_RX9_243 rfl rfl dX9_addYard_69 rfl h (fun σ15 h => ?_)
      refine r_aload_n 1 dX9_addYard_72 rfl rfl rfl ?_
      refine r_getR fg_RX9_63 rfl rfl dX9_addYard_73 rfl ?_
      refine r_iload 0 dX9_addYard_76 rfl rfl ?_
      refine r_aload_n 1 dX9_addYard_78 rfl rfl rfl ?_
      refine r_getI fg_RX9_243 rfl rfl dX9_addYard_79 rfl ?_
      refine r_iast rfl dX9_addYard_82 rfl h (fun σ16 h => ?_)
      refine r_iconst dX9_addYard_83 rfl ki_1 ?_
      exact r_zret rfl dX9_addYard_84 h hE
    · refine r_iconst dX9_addYard_29 rfl ki_0 ?_
      exact r_zret rfl dX9_addYard_30 h hE
  · refine r_iconst dX9_addYard_17 rfl ki_1 ?_
    exact r_zret rfl dX9_addYard_18 h hE
theorem coX9_addYard (σ : Mem) (a1 : Int64) (a3 : Int32) (a4 : Int32) (r : Int32) (σ2 : Mem) (h : FX9_addYard σ a1 a3 a4 = some (r, σ2)) : Con SM 2 yX9_addYard cX9_addYard 6 (some .boolean) (fun ad => [.ref (ad 0), .long a1, .int a3, .int a4]) σ (fun _ => some (.int r)) σ2 :=
  con_of (by decide +kernel) (fun _ => Nat.le_of_ble_eq_true rfl) (fun X hE => eX9_addYard (out := (r, σ2)) hE σ a1 a3 a4 h)
-- IceYardModel failed
abbrev mX9_failed : MD := (cX9_failed, RX9, 2, (some .int), 1)
noncomputable def FX9_failed (σ : Mem) (a1 : Int32) : Option (Int32 × Mem) :=
  nm (setI σ 0 0 a1) fun σ2 =>
  some (((-10 : Int32) - a1), σ2)
set_option maxHeartbeats 4000000 in
set_option maxRecDepth 100000 in
theorem eX9_failed {X : CX} {out : Int32 × Mem} (hE : Ends X SM (some (.int out.1)) out.2) (σ : Mem) (a1 : Int32) (h : FX9_failed σ a1 = some out) : J X SM mX9_failed σ 0 [(0, .ref (xad X 0)), (1, .int a1)] [] := by
  refine r_aload_n 0 dX9_failed_0 rfl rfl rfl ?_
  refine r_iload_n 1 dX9_failed_1 rfl rfl rfl ?_
  refine r_putI fp_RX9_107 rfl rfl dX9_failed_2 rfl h (fun σ2 h => ?_)
  refine r_bipush dX9_failed_5 rfl kb_m10 ?_
  refine r_iload_n 1 dX9_failed_7 rfl rfl rfl ?_
  refine r_isub dX9_failed_8 rfl ?_
  exact r_iret rfl dX9_failed_9 h hE
theorem coX9_failed (σ : Mem) (a1 : Int32) (r : Int32) (σ2 : Mem) (h : FX9_failed σ a1 = some (r, σ2)) : Con SM 1 yX9_failed cX9_failed 2 (some .int) (fun ad => [.ref (ad 0), .int a1]) σ (fun _ => some (.int r)) σ2 :=
  con_of (by decide +kernel) (fun _ => Nat.le_of_ble_eq_true rfl) (fun X hE => eX9_failed (out := (r, σ2)) hE σ a1 h)
-- IceYardModel in
abbrev mX9_in : MD := (cX9_in, RX9, 6, (some .boolean), 1)
noncomputable def FX9_in (σ : Mem) (a0 : Int64) (a2 : Int64) (a4 : Int64) : Option (Int32 × Mem) :=
  if (lg_cmp a0 a2) < 0 then
  (rz (0 : Int32) σ)
  else
  (if 0 < (lg_cmp a0 a4) then
  (rz (0 : Int32) σ)
  else
  (rz (1 : Int32) σ))
set_option maxHeartbeats 4000000 in
set_option maxRecDepth 100000 in
theorem eX9_in {X : CX} {out : Int32 × Mem} (hE : Ends X SM (some (.int out.1)) out.2) (σ : Mem) (a0 : Int64) (a2 : Int64) (a4 : Int64) (h : FX9_in σ a0 a2 a4 = some out) : J X SM mX9_in σ 0 [(0, .long a0), (2, .long a2), (4, .long a4)] [] := by
  refine r_lload_n 0 dX9_in_0 rfl rfl rfl ?_
  refine r_lload_n 1 dX9_in_1 rfl rfl rfl ?_
  refine r_lcmp dX9_in_2 rfl ?_
  refine r_if_lt dX9_in_3 rfl rfl h (fun c h => ?_) (fun c h => ?_)
  · refine r_iconst dX9_in_17 rfl ki_0 ?_
    exact r_zret rfl dX9_in_18 h hE
  · refine r_lload_n 0 dX9_in_6 rfl rfl rfl ?_
    refine r_lload 2 dX9_in_7 rfl rfl ?_
    refine r_lcmp dX9_in_9 rfl ?_
    refine r_if_gt dX9_in_10 rfl rfl h (fun c h => ?_) (fun c h => ?_)
    · refine r_iconst dX9_in_17 rfl ki_0 ?_
      exact r_zret rfl dX9_in_18 h hE
    · refine r_iconst dX9_in_13 rfl ki_1 ?_
      refine r_goto dX9_in_14 rfl ?_
      exact r_zret rfl dX9_in_18 h hE
theorem coX9_in (σ : Mem) (a0 : Int64) (a2 : Int64) (a4 : Int64) (r : Int32) (σ2 : Mem) (h : FX9_in σ a0 a2 a4 = some (r, σ2)) : Con SM 1 yX9_in cX9_in 6 (some .boolean) (fun ad => [.long a0, .long a2, .long a4]) σ (fun _ => some (.int r)) σ2 :=
  con_of (by decide +kernel) (fun _ => Nat.le_of_ble_eq_true rfl) (fun X hE => eX9_in (out := (r, σ2)) hE σ a0 a2 a4 h)
-- IceYardModel noBlock
abbrev mX9_noBlock : MD := (cX9_noBlock, RX9, 2, (some .boolean), 2)
noncomputable def FX9_noBlock (σ : Mem) (a1 : Int32) : Option (Int32 × Mem) :=
  bi (FX9_in σ ((a1).toInt64) (0 : Int64) ((((σ.1 0 3)).toInt64) - (1 : Int64))) fun r4 σ3 =>
  if r4 = 0 then
  (rz (1 : Int32) σ3)
  else
  (rz (0 : Int32) σ3)
set_option maxHeartbeats 4000000 in
set_option maxRecDepth 100000 in
theorem eX9_noBlock {X : CX} {out : Int32 × Mem} (hE : Ends X SM (some (.int out.1)) out.2) (σ : Mem) (a1 : Int32) (h : FX9_noBlock σ a1 = some out) : J X SM mX9_noBlock σ 0 [(0, .ref (xad X 0)), (1, .int a1)] [] := by
  refine r_iload_n 1 dX9_noBlock_0 rfl rfl rfl ?_
  refine r_i2l dX9_noBlock_1 rfl ?_
  refine r_lconst dX9_noBlock_2 rfl kl_0 ?_
  refine r_aload_n 0 dX9_noBlock_3 rfl rfl rfl ?_
  refine r_getI fg_RX9_179 rfl rfl dX9_noBlock_4 rfl ?_
  refine r_i2l dX9_noBlock_7 rfl ?_
  refine r_lconst dX9_noBlock_8 rfl kl_1 ?_
  refine r_lsub dX9_noBlock_9 rfl ?_
  obtain ⟨r4, σ3, hc, h⟩ := bi_of h
  refine r_callS [] [.int r4]  (coX9_in σ ((a1).toInt64) (0 : Int64) ((((σ.1 0 3)).toInt64) - (1 : Int64)) r4 σ3 hc) ms_RX9_142 (by decide) rfl rfl (Nat.le_of_ble_eq_true rfl) rfl dX9_noBlock_10 rfl ?_
  refine r_if_ne dX9_noBlock_13 rfl rfl h (fun c h => ?_) (fun c h => ?_)
  · refine r_iconst dX9_noBlock_20 rfl ki_0 ?_
    exact r_zret rfl dX9_noBlock_21 h hE
  · refine r_iconst dX9_noBlock_16 rfl ki_1 ?_
    refine r_goto dX9_noBlock_17 rfl ?_
    exact r_zret rfl dX9_noBlock_21 h hE
theorem coX9_noBlock (σ : Mem) (a1 : Int32) (r : Int32) (σ2 : Mem) (h : FX9_noBlock σ a1 = some (r, σ2)) : Con SM 2 yX9_noBlock cX9_noBlock 2 (some .boolean) (fun ad => [.ref (ad 0), .int a1]) σ (fun _ => some (.int r)) σ2 :=
  con_of (by decide +kernel) (fun _ => Nat.le_of_ble_eq_true rfl) (fun X hE => eX9_noBlock (out := (r, σ2)) hE σ a1 h)
-- IceYardModel refused
abbrev mX9_refused : MD := (cX9_refused, RX9, 2, (some .int), 1)
noncomputable def FX9_refused (σ : Mem) (a1 : Int32) : Option (Int32 × Mem) :=
  nm (setI σ 0 0 (0 : Int32)) fun σ2 =>
  some (a1, σ2)
set_option maxHeartbeats 4000000 in
set_option maxRecDepth 100000 in
theorem eX9_refused {X : CX} {out : Int32 × Mem} (hE : Ends X SM (some (.int out.1)) out.2) (σ : Mem) (a1 : Int32) (h : FX9_refused σ a1 = some out) : J X SM mX9_refused σ 0 [(0, .ref (xad X 0)), (1, .int a1)] [] := by
  refine r_aload_n 0 dX9_refused_0 rfl rfl rfl ?_
  refine r_iconst dX9_refused_1 rfl ki_0 ?_
  refine r_putI fp_RX9_107 rfl rfl dX9_refused_2 rfl h (fun σ2 h => ?_)
  refine r_iload_n 1 dX9_refused_5 rfl rfl rfl ?_
  exact r_iret rfl dX9_refused_6 h hE
theorem coX9_refused (σ : Mem) (a1 : Int32) (r : Int32) (σ2 : Mem) (h : FX9_refused σ a1 = some (r, σ2)) : Con SM 1 yX9_refused cX9_refused 2 (some .int) (fun ad => [.ref (ad 0), .int a1]) σ (fun _ => some (.int r)) σ2 :=
  con_of (by decide +kernel) (fun _ => Nat.le_of_ble_eq_true rfl) (fun X hE => eX9_refused (out := (r, σ2)) hE σ a1 h)
-- IceYardModel as
abbrev mX9_as : MD := (cX9_as, RX9, 3, (some .int), 3)
noncomputable def FX9_as (σ : Mem) (a1 : Int32) (a2 : Int32) : Option (Int32 × Mem) :=
  bi (FX9_noBlock σ a1) fun r15 σ14 =>
  if r15 = 0 then
  (bi (FX9_in σ14 ((a2).toInt64) (0 : Int64) (2 : Int64)) fun r17 σ16 =>
  if r17 = 0 then
  (bi (FX9_refused σ16 (-2 : Int32)) fun r24 σ23 =>
  some (r24, σ23))
  else
  (rd a1 6 fun j18 =>
  if (σ16.1 2 j18) < a2 then
  (bi (FX9_failed σ16 (2 : Int32)) fun r20 σ19 =>
  some (r20, σ19))
  else
  (bi (FX9_refused σ16 (1 : Int32)) fun r22 σ21 =>
  some (r22, σ21))))
  else
  (bi (FX9_refused σ14 (-1 : Int32)) fun r26 σ25 =>
  some (r26, σ25))
set_option maxHeartbeats 4000000 in
set_option maxRecDepth 100000 in
theorem eX9_as {X : CX} {out : Int32 × Mem} (hE : Ends X SM (some (.int out.1)) out.2) (σ : Mem) (a1 : Int32) (a2 : Int32) (h : FX9_as σ a1 a2 = some out) : J X SM mX9_as σ 0 [(0, .ref (xad X 0)), (1, .int a1), (2, .int a2)] [] := by
  refine r_aload_n 0 dX9_as_0 rfl rfl rfl ?_
  refine r_iload_n 1 dX9_as_1 rfl rfl rfl ?_
  obtain ⟨r15, σ14, hc, h⟩ := bi_of h
  refine r_callV [.int a1] [] [.int r15]  (coX9_noBlock σ a1 r15 σ14 hc) mv_RX9_202 (by decide) rfl rfl rfl rfl rfl (Nat.le_of_ble_eq_true rfl) rfl dX9_as_2 rfl ?_
  refine r_if_eq dX9_as_5 rfl rfl h (fun c h => ?_) (fun c h => ?_)
  · refine r_iload_n 2 dX9_as_14 rfl rfl rfl ?_
    refine r_i2l dX9_as_15 rfl ?_
    refine r_lconst dX9_as_16 rfl kl_0 ?_
    refine r_ldc2 dX9_as_17 rfl cl_RX9_166 ?_
    obtain ⟨r17, σ16, hc, h⟩ := bi_of h
    refine r_callS [] [.int r17]  (coX9_in σ14 ((a2).toInt64) (0 : Int64) (2 : Int64) r17 σ16 hc) ms_RX9_142 (by decide) rfl rfl (Nat.le_of_ble_eq_true rfl) rfl dX9_as_20 rfl ?_
    refine r_if_ne dX9_as_23 rfl rfl h (fun c h => ?_) (fun c h => ?_)
    · refine r_aload_n 0 dX9_as_33 rfl rfl rfl ?_
      refine r_getR fg_RX9_13 rfl rfl dX9_as_34 rfl ?_
      refine r_iload_n 1 dX9_as_37 rfl rfl rfl ?_
      refine r_iald rfl dX9_as_38 rfl h (fun j18 h => ?_)
      refine r_iload_n 2 dX9_as_39 rfl rfl rfl ?_
      refine r_icmp_lt dX9_as_40 rfl rfl h (fun c h => ?_) (fun c h => ?_)
      · refine r_aload_n 0 dX9_as_51 rfl rfl rfl ?_
        refine r_iconst dX9_as_52 rfl ki_2 ?_
        obtain ⟨r20, σ19, hc, h⟩ := bi_of h
        refine r_callV [.int (2 : Int32)] [] [.int r20]  (coX9_failed σ16 (2 : Int32) r20 σ19 hc) mv_RX9_168 (by decide) rfl rfl rfl rfl rfl (Nat.le_of_ble_eq_true rfl) rfl dX9_as_53 rfl ?_
        exact r_iret rfl dX9_as_56 h hE
      · refine r_aload_n 0 dX9_as_43 rfl rfl rfl ?_
        refine r_iconst dX9_as_44 rfl ki_1 ?_
        obtain ⟨r22, σ21, hc, h⟩ := bi_of h
        refine r_callV [.int (1 : Int32)] [] [.int r22]  (coX9_refused σ16 (1 : Int32) r22 σ21 hc) mv_RX9_163 (by decide) rfl rfl rfl rfl rfl (Nat.le_of_ble_eq_true rfl) rfl dX9_as_45 rfl ?_
        refine r_goto dX9_as_48 rfl ?_
        exact r_iret rfl dX9_as_56 h hE
    · refine r_aload_n 0 dX9_as_26 rfl rfl rfl ?_
      refine r_bipush dX9_as_27 rfl kb_m2 ?_
      obtain ⟨r24, σ23, hc, h⟩ := bi_of h
      refine r_callV [.int (-2 : Int32)] [] [.int r24]  (coX9_refused σ16 (-2 : Int32) r24 σ23 hc) mv_RX9_163 (by decide) rfl rfl rfl rfl rfl (Nat.le_of_ble_eq_true rfl) rfl dX9_as_29 rfl ?_
      exact r_iret rfl dX9_as_32 h hE
  · refine r_aload_n 0 dX9_as_8 rfl rfl rfl ?_
    refine r_iconst dX9_as_9 rfl ki_m1 ?_
    obtain ⟨r26, σ25, hc, h⟩ := bi_of h
    refine r_callV [.int (-1 : Int32)] [] [.int r26]  (coX9_refused σ14 (-1 : Int32) r26 σ25 hc) mv_RX9_163 (by decide) rfl rfl rfl rfl rfl (Nat.le_of_ble_eq_true rfl) rfl dX9_as_10 rfl ?_
    exact r_iret rfl dX9_as_13 h hE
theorem coX9_as (σ : Mem) (a1 : Int32) (a2 : Int32) (r : Int32) (σ2 : Mem) (h : FX9_as σ a1 a2 = some (r, σ2)) : Con SM 3 yX9_as cX9_as 3 (some .int) (fun ad => [.ref (ad 0), .int a1, .int a2]) σ (fun _ => some (.int r)) σ2 :=
  con_of (by decide +kernel) (fun _ => Nat.le_of_ble_eq_true rfl) (fun X hE => eX9_as (out := (r, σ2)) hE σ a1 a2 h)
-- IceYardModel blockIn
abbrev mX9_blockIn : MD := (cX9_blockIn, RX9, 3, (some .int), 1)
noncomputable def BX9_blockIn_2 (rl2 : Mem → Int32 → Int32 → Option (Int32 × Mem)) (σ : Mem) (x1 : Int32) (x2 : Int32) : Option (Int32 × Mem) :=
  if (σ.1 0 3) ≤ x2 then
  (some ((-9 : Int32), σ))
  else
  (rd x2 6 fun j3 =>
  if (σ.1 4 j3) = x1 then
  (some (x2, σ))
  else
  (nm (x2 + (1 : Int32)) fun x_4 =>
  rl2 σ x1 x_4))
set_option maxHeartbeats 4000000 in
set_option maxRecDepth 100000 in
theorem jX9_blockIn_2 {X : CX} {out : Int32 × Mem} (hE : Ends X SM (some (.int out.1)) out.2) (rl2 : Mem → Int32 → Int32 → Option (Int32 × Mem)) (hr2 : ∀ (σ : Mem) (x1 : Int32) (x2 : Int32), rl2 σ x1 x2 = some out → J X SM mX9_blockIn σ 2 [(0, .ref (xad X 0)), (1, .int x1), (2, .int x2)] []) (σ : Mem) (x1 : Int32) (x2 : Int32) (h : BX9_blockIn_2 rl2 σ x1 x2 = some out) : J X SM mX9_blockIn σ 2 [(0, .ref (xad X 0)), (1, .int x1), (2, .int x2)] [] := by
  refine r_iload_n 2 dX9_blockIn_2 rfl rfl rfl ?_
  refine r_aload_n 0 dX9_blockIn_3 rfl rfl rfl ?_
  refine r_getI fg_RX9_179 rfl rfl dX9_blockIn_4 rfl ?_
  refine r_icmp_ge dX9_blockIn_7 rfl rfl h (fun c h => ?_) (fun c h => ?_)
  · refine r_bipush dX9_blockIn_28 rfl kb_m9 ?_
    exact r_iret rfl dX9_blockIn_30 h hE
  · refine r_aload_n 0 dX9_blockIn_10 rfl rfl rfl ?_
    refine r_getR fg_RX9_19 rfl rfl dX9_blockIn_11 rfl ?_
    refine r_iload_n 2 dX9_blockIn_14 rfl rfl rfl ?_
    refine r_iald rfl dX9_blockIn_15 rfl h (fun j3 h => ?_)
    refine r_iload_n 1 dX9_blockIn_16 rfl rfl rfl ?_
    refine r_icmp_ne dX9_blockIn_17 rfl rfl h (fun c h => ?_) (fun c h => ?_)
    · refine r_iinc 2 (fun x_4 => [(2, .int x_4), (0, .ref (xad X 0)), (1, .int x1)]) dX9_blockIn_22 rfl rfl ki_1 (show 2 < 3 by decide) (fun _ => rfl) h (fun x_4 h => ?_)
      refine r_goto dX9_blockIn_25 rfl ?_
      refine r_sub [1, 2, 0] rfl ?_
      exact hr2 σ x1 x_4 h
    · refine r_iload_n 2 dX9_blockIn_20 rfl rfl rfl ?_
      exact r_iret rfl dX9_blockIn_21 h hE
noncomputable def FX9_blockIn_2 (n : Nat) : Mem → Int32 → Int32 → Option (Int32 × Mem) :=
  Nat.rec (fun _ _ _ => none) (fun _ ih => BX9_blockIn_2 ih) n
theorem lX9_blockIn_2 {X : CX} {out : Int32 × Mem} (hE : Ends X SM (some (.int out.1)) out.2) : ∀ (n : Nat) (σ : Mem) (x1 : Int32) (x2 : Int32), FX9_blockIn_2 n σ x1 x2 = some out → J X SM mX9_blockIn σ 2 [(0, .ref (xad X 0)), (1, .int x1), (2, .int x2)] [] := by
  intro n
  induction n with
  | zero => intro σ x1 x2 h; exact nn h
  | succ n ih => intro σ x1 x2 h; exact jX9_blockIn_2 hE (FX9_blockIn_2 n) ih σ x1 x2 h
noncomputable def FX9_blockIn (σ : Mem) (a1 : Int32) : Option (Int32 × Mem) :=
  FX9_blockIn_2 FU σ a1 (0 : Int32)
set_option maxHeartbeats 4000000 in
set_option maxRecDepth 100000 in
theorem eX9_blockIn {X : CX} {out : Int32 × Mem} (hE : Ends X SM (some (.int out.1)) out.2) (σ : Mem) (a1 : Int32) (h : FX9_blockIn σ a1 = some out) : J X SM mX9_blockIn σ 0 [(0, .ref (xad X 0)), (1, .int a1)] [] := by
  refine r_iconst dX9_blockIn_0 rfl ki_0 ?_
  refine r_istoreV_n [(2, .int (0 : Int32)), (0, .ref (xad X 0)), (1, .int a1)] dX9_blockIn_1 rfl rfl (show 2 < 3 by decide) rfl ?_
  refine r_sub [1, 2, 0] rfl ?_
  exact lX9_blockIn_2 hE FU σ a1 (0 : Int32) h
theorem coX9_blockIn (σ : Mem) (a1 : Int32) (r : Int32) (σ2 : Mem) (h : FX9_blockIn σ a1 = some (r, σ2)) : Con SM 1 yX9_blockIn cX9_blockIn 3 (some .int) (fun ad => [.ref (ad 0), .int a1]) σ (fun _ => some (.int r)) σ2 :=
  con_of (by decide +kernel) (fun _ => Nat.le_of_ble_eq_true rfl) (fun X hE => eX9_blockIn (out := (r, σ2)) hE σ a1 h)
-- IceYardModel cells
abbrev mX9_cells : MD := (cX9_cells, RX9, 1, (some .int), 1)
noncomputable def FX9_cells (σ : Mem) : Option (Int32 × Mem) :=
  some (((σ.1 0 1) * (σ.1 0 2)), σ)
set_option maxHeartbeats 4000000 in
set_option maxRecDepth 100000 in
theorem eX9_cells {X : CX} {out : Int32 × Mem} (hE : Ends X SM (some (.int out.1)) out.2) (σ : Mem) (h : FX9_cells σ = some out) : J X SM mX9_cells σ 0 [(0, .ref (xad X 0))] [] := by
  refine r_aload_n 0 dX9_cells_0 rfl rfl rfl ?_
  refine r_getI fg_RX9_115 rfl rfl dX9_cells_1 rfl ?_
  refine r_aload_n 0 dX9_cells_4 rfl rfl rfl ?_
  refine r_getI fg_RX9_118 rfl rfl dX9_cells_5 rfl ?_
  refine r_imul dX9_cells_8 rfl ?_
  exact r_iret rfl dX9_cells_9 h hE
theorem coX9_cells (σ : Mem) (r : Int32) (σ2 : Mem) (h : FX9_cells σ = some (r, σ2)) : Con SM 1 yX9_cells cX9_cells 1 (some .int) (fun ad => [.ref (ad 0)]) σ (fun _ => some (.int r)) σ2 :=
  con_of (by decide +kernel) (fun _ => Nat.le_of_ble_eq_true rfl) (fun X hE => eX9_cells (out := (r, σ2)) hE σ h)
-- IceYardModel whatIs
abbrev mX9_whatIs : MD := (cX9_whatIs, RX9, 2, (some .int), 1)
noncomputable def FX9_whatIs (σ : Mem) (a1 : Int32) : Option (Int32 × Mem) :=
  if (lg_cmp (((σ.2 0 17) >>> ((a1).toInt64 &&& 63)) &&& (1 : Int64)) (1 : Int64)) = 0 then
  (some ((2 : Int32), σ))
  else
  (rd a1 36 fun j4 =>
  if (σ.1 1 j4) = (3 : Int32) then
  (if (lg_cmp (((σ.2 0 8) >>> ((a1).toInt64 &&& 63)) &&& (1 : Int64)) (1 : Int64)) = 0 then
  (some ((0 : Int32), σ))
  else
  (rd a1 36 fun j6 =>
  some ((σ.1 1 j6), σ)))
  else
  (rd a1 36 fun j5 =>
  some ((σ.1 1 j5), σ)))
set_option maxHeartbeats 4000000 in
set_option maxRecDepth 100000 in
theorem eX9_whatIs {X : CX} {out : Int32 × Mem} (hE : Ends X SM (some (.int out.1)) out.2) (σ : Mem) (a1 : Int32) (h : FX9_whatIs σ a1 = some out) : J X SM mX9_whatIs σ 0 [(0, .ref (xad X 0)), (1, .int a1)] [] := by
  refine r_aload_n 0 dX9_whatIs_0 rfl rfl rfl ?_
  refine r_getL fg_RX9_190 rfl rfl dX9_whatIs_1 rfl ?_
  refine r_iload_n 1 dX9_whatIs_4 rfl rfl rfl ?_
  refine r_lshr dX9_whatIs_5 rfl ?_
  refine r_lconst dX9_whatIs_6 rfl kl_1 ?_
  refine r_land dX9_whatIs_7 rfl ?_
  refine r_lconst dX9_whatIs_8 rfl kl_1 ?_
  refine r_lcmp dX9_whatIs_9 rfl ?_
  refine r_if_ne dX9_whatIs_10 rfl rfl h (fun c h => ?_) (fun c h => ?_)
  · refine r_aload_n 0 dX9_whatIs_15 rfl rfl rfl ?_
    refine r_getR fg_RX9_7 rfl rfl dX9_whatIs_16 rfl ?_
    refine r_iload_n 1 dX9_whatIs_19 rfl rfl rfl ?_
    refine r_iald rfl dX9_whatIs_20 rfl h (fun j4 h => ?_)
    refine r_iconst dX9_whatIs_21 rfl ki_3 ?_
    refine r_icmp_ne dX9_whatIs_22 rfl rfl h (fun c h => ?_) (fun c h => ?_)
    · refine r_aload_n 0 dX9_whatIs_42 rfl rfl rfl ?_
      refine r_getR fg_RX9_7 rfl rfl dX9_whatIs_43 rfl ?_
      refine r_iload_n 1 dX9_whatIs_46 rfl rfl rfl ?_
      refine r_iald rfl dX9_whatIs_47 rfl h (fun j5 h => ?_)
      exact r_iret rfl dX9_whatIs_48 h hE
    · refine r_aload_n 0 dX9_whatIs_25 rfl rfl rfl ?_
      refine r_getL fg_RX9_186 rfl rfl dX9_whatIs_26 rfl ?_
      refine r_iload_n 1 dX9_whatIs_29 rfl rfl rfl ?_
      refine r_lshr dX9_whatIs_30 rfl ?_
      refine r_lconst dX9_whatIs_31 rfl kl_1 ?_
      refine r_land dX9_whatIs_32 rfl ?_
      refine r_lconst dX9_whatIs_33 rfl kl_1 ?_
      refine r_lcmp dX9_whatIs_34 rfl ?_
      refine r_if_ne dX9_whatIs_35 rfl rfl h (fun c h => ?_) (fun c h => ?_)
      · refine r_aload_n 0 dX9_whatIs_42 rfl rfl rfl ?_
        refine r_getR fg_RX9_7 rfl rfl dX9_whatIs_43 rfl ?_
        refine r_iload_n 1 dX9_whatIs_46 rfl rfl rfl ?_
        refine r_iald rfl dX9_whatIs_47 rfl h (fun j6 h => ?_)
        exact r_iret rfl dX9_whatIs_48 h hE
      · refine r_iconst dX9_whatIs_38 rfl ki_0 ?_
        refine r_goto dX9_whatIs_39 rfl ?_
        exact r_iret rfl dX9_whatIs_48 h hE
  · refine r_iconst dX9_whatIs_13 rfl ki_2 ?_
    exact r_iret rfl dX9_whatIs_14 h hE
theorem coX9_whatIs (σ : Mem) (a1 : Int32) (r : Int32) (σ2 : Mem) (h : FX9_whatIs σ a1 = some (r, σ2)) : Con SM 1 yX9_whatIs cX9_whatIs 2 (some .int) (fun ad => [.ref (ad 0), .int a1]) σ (fun _ => some (.int r)) σ2 :=
  con_of (by decide +kernel) (fun _ => Nat.le_of_ble_eq_true rfl) (fun X hE => eX9_whatIs (out := (r, σ2)) hE σ a1 h)
-- IceYardModel at
abbrev mX9_at : MD := (cX9_at, RX9, 3, (some .int), 2)
noncomputable def FX9_at (σ : Mem) (a1 : Int32) : Option (Int32 × Mem) :=
  bi (FX9_cells σ) fun r10 σ9 =>
  bi (FX9_in σ9 ((a1).toInt64) (0 : Int64) (((r10).toInt64) - (1 : Int64))) fun r12 σ11 =>
  if r12 = 0 then
  (some ((-1 : Int32), σ11))
  else
  (bi (FX9_blockIn σ11 a1) fun r14 σ13 =>
  if 0 ≤ r14 then
  (some (((10 : Int32) + r14), σ13))
  else
  (bi (FX9_whatIs σ13 a1) fun r16 σ15 =>
  some (r16, σ15)))
set_option maxHeartbeats 4000000 in
set_option maxRecDepth 100000 in
theorem eX9_at {X : CX} {out : Int32 × Mem} (hE : Ends X SM (some (.int out.1)) out.2) (σ : Mem) (a1 : Int32) (h : FX9_at σ a1 = some out) : J X SM mX9_at σ 0 [(0, .ref (xad X 0)), (1, .int a1)] [] := by
  refine r_iload_n 1 dX9_at_0 rfl rfl rfl ?_
  refine r_i2l dX9_at_1 rfl ?_
  refine r_lconst dX9_at_2 rfl kl_0 ?_
  refine r_aload_n 0 dX9_at_3 rfl rfl rfl ?_
  obtain ⟨r10, σ9, hc, h⟩ := bi_of h
  refine r_callV [] [.long (0 : Int64), .long ((a1).toInt64)] [.int r10, .long (0 : Int64), .long ((a1).toInt64)]  (coX9_cells σ r10 σ9 hc) mv_RX9_182 (by decide) rfl rfl rfl rfl rfl (Nat.le_of_ble_eq_true rfl) rfl dX9_at_4 rfl ?_
  refine r_i2l dX9_at_7 rfl ?_
  refine r_lconst dX9_at_8 rfl kl_1 ?_
  refine r_lsub dX9_at_9 rfl ?_
  obtain ⟨r12, σ11, hc, h⟩ := bi_of h
  refine r_callS [] [.int r12]  (coX9_in σ9 ((a1).toInt64) (0 : Int64) (((r10).toInt64) - (1 : Int64)) r12 σ11 hc) ms_RX9_142 (by decide) rfl rfl (Nat.le_of_ble_eq_true rfl) rfl dX9_at_10 rfl ?_
  refine r_if_ne dX9_at_13 rfl rfl h (fun c h => ?_) (fun c h => ?_)
  · refine r_aload_n 0 dX9_at_18 rfl rfl rfl ?_
    refine r_iload_n 1 dX9_at_19 rfl rfl rfl ?_
    obtain ⟨r14, σ13, hc, h⟩ := bi_of h
    refine r_callV [.int a1] [] [.int r14]  (coX9_blockIn σ11 a1 r14 σ13 hc) mv_RX9_196 (by decide) rfl rfl rfl rfl rfl (Nat.le_of_ble_eq_true rfl) rfl dX9_at_20 rfl ?_
    refine r_istoreV_n [(2, .int r14), (0, .ref (xad X 0)), (1, .int a1)] dX9_at_23 rfl rfl (show 2 < 3 by decide) rfl ?_
    refine r_iload_n 0 dX9_at_24 rfl rfl rfl ?_
    refine r_if_ge dX9_at_25 rfl rfl h (fun c h => ?_) (fun c h => ?_)
    · refine r_bipush dX9_at_36 rfl kb_10 ?_
      refine r_iload_n 0 dX9_at_38 rfl rfl rfl ?_
      refine r_iadd dX9_at_39 rfl ?_
      exact r_iret rfl dX9_at_40 h hE
    · refine r_aload_n 1 dX9_at_28 rfl rfl rfl ?_
      refine r_iload_n 2 dX9_at_29 rfl rfl rfl ?_
      obtain ⟨r16, σ15, hc, h⟩ := bi_of h
      refine r_callV [.int a1] [] [.int r16]  (coX9_whatIs σ13 a1 r16 σ15 hc) mv_RX9_199 (by decide) rfl rfl rfl rfl rfl (Nat.le_of_ble_eq_true rfl) rfl dX9_at_30 rfl ?_
      refine r_goto dX9_at_33 rfl ?_
      exact r_iret rfl dX9_at_40 h hE
  · refine r_iconst dX9_at_16 rfl ki_m1 ?_
    exact r_iret rfl dX9_at_17 h hE
theorem coX9_at (σ : Mem) (a1 : Int32) (r : Int32) (σ2 : Mem) (h : FX9_at σ a1 = some (r, σ2)) : Con SM 2 yX9_at cX9_at 3 (some .int) (fun ad => [.ref (ad 0), .int a1]) σ (fun _ => some (.int r)) σ2 :=
  con_of (by decide +kernel) (fun _ => Nat.le_of_ble_eq_true rfl) (fun X hE => eX9_at (out := (r, σ2)) hE σ a1 h)
-- IceYardModel back
abbrev mX9_back : MD := (cX9_back, RX9, 3, (some .int), 2)
noncomputable def BX9_back_28 (rl28 : Mem → Int32 → Int32 → Option (Int32 × Mem)) (σ : Mem) (x1 : Int32) (x2 : Int32) : Option (Int32 × Mem) :=
  if (6 : Int32) ≤ x2 then
  (rd x1 3 fun j10 =>
  nm (setL σ 0 8 (σ.2 14 j10)) fun σ11 =>
  nm (setI σ11 0 22 (0 : Int32)) fun σ12 =>
  some ((1 : Int32), σ12))
  else
  (rd (((6 : Int32) * x1) + x2) 18 fun j13 =>
  stI σ 4 6 x2 (σ.1 13 j13) fun σ14 =>
  nm (x2 + (1 : Int32)) fun x_15 =>
  rl28 σ14 x1 x_15)
set_option maxHeartbeats 4000000 in
set_option maxRecDepth 100000 in
theorem jX9_back_28 {X : CX} {out : Int32 × Mem} (hE : Ends X SM (some (.int out.1)) out.2) (rl28 : Mem → Int32 → Int32 → Option (Int32 × Mem)) (hr28 : ∀ (σ : Mem) (x1 : Int32) (x2 : Int32), rl28 σ x1 x2 = some out → J X SM mX9_back σ 28 [(0, .ref (xad X 0)), (1, .int x1), (2, .int x2)] []) (σ : Mem) (x1 : Int32) (x2 : Int32) (h : BX9_back_28 rl28 σ x1 x2 = some out) : J X SM mX9_back σ 28 [(0, .ref (xad X 0)), (1, .int x1), (2, .int x2)] [] := by
  refine r_iload_n 2 dX9_back_28 rfl rfl rfl ?_
  refine r_bipush dX9_back_29 rfl kb_6 ?_
  refine r_icmp_ge dX9_back_31 rfl rfl h (fun c h => ?_) (fun c h => ?_)
  · refine r_aload_n 0 dX9_back_57 rfl rfl rfl ?_
    refine r_aload_n 0 dX9_back_58 rfl rfl rfl ?_
    refine r_getR fg_RX9_51 rfl rfl dX9_back_59 rfl ?_
    refine r_iload_n 1 dX9_back_62 rfl rfl rfl ?_
    refine r_lald rfl dX9_back_63 rfl h (fun j10 h => ?_)
    refine r_putL fp_RX9_186 rfl rfl dX9_back_64 rfl h (fun σ11 h => ?_)
    refine r_aload_n 0 dX9_back_67 rfl rfl rfl ?_
    refine r_iconst dX9_back_68 rfl ki_0 ?_
    refine r_putI fp_RX9_193 rfl rfl dX9_back_69 rfl h (fun σ12 h => ?_)
    refine r_iconst dX9_back_72 rfl ki_1 ?_
    exact r_iret rfl dX9_back_73 h hE
  · refine r_aload_n 0 dX9_back_34 rfl rfl rfl ?_
    refine r_getR fg_RX9_19 rfl rfl dX9_back_35 rfl ?_
    refine r_iload_n 2 dX9_back_38 rfl rfl rfl ?_
    refine r_aload_n 0 dX9_back_39 rfl rfl rfl ?_
    refine r_getR fg_RX9_48 rfl rfl dX9_back_40 rfl ?_
    refine r_bipush dX9_back_43 rfl kb_6 ?_
    refine r_iload_n 1 dX9_back_45 rfl rfl rfl ?_
    refine r_imul dX9_back_46 rfl ?_
    refine r_iload_n 2 dX9_back_47 rfl rfl rfl ?_
    refine r_iadd dX9_back_48 rfl ?_
    refine r_iald rfl dX9_back_49 rfl h (fun j13 h => ?_)
    refine r_iast rfl dX9_back_50 rfl h (fun σ14 h => ?_)
    refine r_iinc 2 (fun x_15 => [(2, .int x_15), (0, .ref (xad X 0)), (1, .int x1)]) dX9_back_51 rfl rfl ki_1 (show 2 < 3 by decide) (fun _ => rfl) h (fun x_15 h => ?_)
    refine r_goto dX9_back_54 rfl ?_
    refine r_sub [1, 2, 0] rfl ?_
    exact hr28 σ14 x1 x_15 h
noncomputable def FX9_back_28 (n : Nat) : Mem → Int32 → Int32 → Option (Int32 × Mem) :=
  Nat.rec (fun _ _ _ => none) (fun _ ih => BX9_back_28 ih) n
theorem lX9_back_28 {X : CX} {out : Int32 × Mem} (hE : Ends X SM (some (.int out.1)) out.2) : ∀ (n : Nat) (σ : Mem) (x1 : Int32) (x2 : Int32), FX9_back_28 n σ x1 x2 = some out → J X SM mX9_back σ 28 [(0, .ref (xad X 0)), (1, .int x1), (2, .int x2)] [] := by
  intro n
  induction n with
  | zero => intro σ x1 x2 h; exact nn h
  | succ n ih => intro σ x1 x2 h; exact jX9_back_28 hE (FX9_back_28 n) ih σ x1 x2 h
noncomputable def FX9_back (σ : Mem) (a1 : Int32) : Option (Int32 × Mem) :=
  bi (FX9_in σ ((a1).toInt64) (0 : Int64) (2 : Int64)) fun r17 σ16 =>
  if r17 = 0 then
  (some ((-1 : Int32), σ16))
  else
  (rd a1 3 fun j18 =>
  if (σ16.1 12 j18) = 0 then
  (some ((-3 : Int32), σ16))
  else
  (FX9_back_28 FU σ16 a1 (0 : Int32)))
set_option maxHeartbeats 4000000 in
set_option maxRecDepth 100000 in
theorem eX9_back {X : CX} {out : Int32 × Mem} (hE : Ends X SM (some (.int out.1)) out.2) (σ : Mem) (a1 : Int32) (h : FX9_back σ a1 = some out) : J X SM mX9_back σ 0 [(0, .ref (xad X 0)), (1, .int a1)] [] := by
  refine r_iload_n 1 dX9_back_0 rfl rfl rfl ?_
  refine r_i2l dX9_back_1 rfl ?_
  refine r_lconst dX9_back_2 rfl kl_0 ?_
  refine r_ldc2 dX9_back_3 rfl cl_RX9_166 ?_
  obtain ⟨r17, σ16, hc, h⟩ := bi_of h
  refine r_callS [] [.int r17]  (coX9_in σ ((a1).toInt64) (0 : Int64) (2 : Int64) r17 σ16 hc) ms_RX9_142 (by decide) rfl rfl (Nat.le_of_ble_eq_true rfl) rfl dX9_back_6 rfl ?_
  refine r_if_ne dX9_back_9 rfl rfl h (fun c h => ?_) (fun c h => ?_)
  · refine r_aload_n 0 dX9_back_14 rfl rfl rfl ?_
    refine r_getR fg_RX9_44 rfl rfl dX9_back_15 rfl ?_
    refine r_iload_n 1 dX9_back_18 rfl rfl rfl ?_
    refine r_zald rfl dX9_back_19 rfl h (fun j18 h => ?_)
    refine r_if_ne dX9_back_20 rfl rfl h (fun c h => ?_) (fun c h => ?_)
    · refine r_iconst dX9_back_26 rfl ki_0 ?_
      refine r_istoreV_n [(2, .int (0 : Int32)), (0, .ref (xad X 0)), (1, .int a1)] dX9_back_27 rfl rfl (show 2 < 3 by decide) rfl ?_
      refine r_sub [1, 2, 0] rfl ?_
      exact lX9_back_28 hE FU σ16 a1 (0 : Int32) h
    · refine r_bipush dX9_back_23 rfl kb_m3 ?_
      exact r_iret rfl dX9_back_25 h hE
  · refine r_iconst dX9_back_12 rfl ki_m1 ?_
    exact r_iret rfl dX9_back_13 h hE
theorem coX9_back (σ : Mem) (a1 : Int32) (r : Int32) (σ2 : Mem) (h : FX9_back σ a1 = some (r, σ2)) : Con SM 2 yX9_back cX9_back 3 (some .int) (fun ad => [.ref (ad 0), .int a1]) σ (fun _ => some (.int r)) σ2 :=
  con_of (by decide +kernel) (fun _ => Nat.le_of_ble_eq_true rfl) (fun X hE => eX9_back (out := (r, σ2)) hE σ a1 h)
-- IceYardModel beside
abbrev mX9_beside : MD := (cX9_beside, RX9, 5, (some .int), 2)
noncomputable def FX9_beside_51 (σ : Mem) (x3 : Int32) (s0 : Int32) (s1 : Int32) : Option (Int32 × Mem) :=
  nm (s1 + s0) fun x_7 =>
  bi (FX9_in σ ((x3).toInt64) (0 : Int64) ((((σ.1 0 1)).toInt64) - (1 : Int64))) fun r9 σ8 =>
  if r9 = 0 then
  (some ((-9 : Int32), σ8))
  else
  (bi (FX9_in σ8 ((x_7).toInt64) (0 : Int64) ((((σ8.1 0 2)).toInt64) - (1 : Int64))) fun r11 σ10 =>
  if r11 = 0 then
  (some ((-9 : Int32), σ10))
  else
  (some (((x3 * (σ10.1 0 2)) + x_7), σ10)))
set_option maxHeartbeats 4000000 in
set_option maxRecDepth 100000 in
theorem jX9_beside_51 {X : CX} {out : Int32 × Mem} (hE : Ends X SM (some (.int out.1)) out.2) (σ : Mem) (x3 : Int32) (s0 : Int32) (s1 : Int32) (h : FX9_beside_51 σ x3 s0 s1 = some out) : J X SM mX9_beside σ 51 [(0, .ref (xad X 0)), (3, .int x3)] [.int s0, .int s1] := by
  refine r_iadd dX9_beside_51 rfl ?_
  refine r_istore (fun x_7 => [(4, .int x_7), (0, .ref (xad X 0)), (3, .int x3)]) dX9_beside_52 rfl (show 4 < 5 by decide) (fun _ => rfl) h (fun x_7 h => ?_)
  refine r_iload_n 2 dX9_beside_54 rfl rfl rfl ?_
  refine r_i2l dX9_beside_55 rfl ?_
  refine r_lconst dX9_beside_56 rfl kl_0 ?_
  refine r_aload_n 1 dX9_beside_57 rfl rfl rfl ?_
  refine r_getI fg_RX9_115 rfl rfl dX9_beside_58 rfl ?_
  refine r_i2l dX9_beside_61 rfl ?_
  refine r_lconst dX9_beside_62 rfl kl_1 ?_
  refine r_lsub dX9_beside_63 rfl ?_
  obtain ⟨r9, σ8, hc, h⟩ := bi_of h
  refine r_callS [] [.int r9]  (coX9_in σ ((x3).toInt64) (0 : Int64) ((((σ.1 0 1)).toInt64) - (1 : Int64)) r9 σ8 hc) ms_RX9_142 (by decide) rfl rfl (Nat.le_of_ble_eq_true rfl) rfl dX9_beside_64 rfl ?_
  refine r_if_eq dX9_beside_67 rfl rfl h (fun c h => ?_) (fun c h => ?_)
  · refine r_bipush dX9_beside_99 rfl kb_m9 ?_
    exact r_iret rfl dX9_beside_101 h hE
  · refine r_iload 0 dX9_beside_70 rfl rfl ?_
    refine r_i2l dX9_beside_72 rfl ?_
    refine r_lconst dX9_beside_73 rfl kl_0 ?_
    refine r_aload_n 1 dX9_beside_74 rfl rfl rfl ?_
    refine r_getI fg_RX9_118 rfl rfl dX9_beside_75 rfl ?_
    refine r_i2l dX9_beside_78 rfl ?_
    refine r_lconst dX9_beside_79 rfl kl_1 ?_
    refine r_lsub dX9_beside_80 rfl ?_
    obtain ⟨r11, σ10, hc, h⟩ := bi_of h
    refine r_callS [] [.int r11]  (coX9_in σ8 ((x_7).toInt64) (0 : Int64) ((((σ8.1 0 2)).toInt64) - (1 : Int64)) r11 σ10 hc) ms_RX9_142 (by decide) rfl rfl (Nat.le_of_ble_eq_true rfl) rfl dX9_beside_81 rfl ?_
    refine r_if_eq dX9_beside_84 rfl rfl h (fun c h => ?_) (fun c h => ?_)
    · refine r_bipush dX9_beside_99 rfl kb_m9 ?_
      exact r_iret rfl dX9_beside_101 h hE
    · refine r_iload_n 2 dX9_beside_87 rfl rfl rfl ?_
      refine r_aload_n 1 dX9_beside_88 rfl rfl rfl ?_
      refine r_getI fg_RX9_118 rfl rfl dX9_beside_89 rfl ?_
      refine r_imul dX9_beside_92 rfl ?_
      refine r_iload 0 dX9_beside_93 rfl rfl ?_
      refine r_iadd dX9_beside_95 rfl ?_
      refine r_goto dX9_beside_96 rfl ?_
      exact r_iret rfl dX9_beside_101 h hE
noncomputable def FX9_beside_24 (σ : Mem) (x1 : Int32) (x2 : Int32) (s0 : Int32) (s1 : Int32) : Option (Int32 × Mem) :=
  nm (s1 + s0) fun x_12 =>
  dzI (σ.1 0 2) <|
  if x2 = (1 : Int32) then
  (FX9_beside_51 σ x_12 (1 : Int32) (x1 - x1 / (σ.1 0 2) * (σ.1 0 2)))
  else
  (if x2 = (3 : Int32) then
  (FX9_beside_51 σ x_12 (-1 : Int32) (x1 - x1 / (σ.1 0 2) * (σ.1 0 2)))
  else
  (FX9_beside_51 σ x_12 (0 : Int32) (x1 - x1 / (σ.1 0 2) * (σ.1 0 2))))
set_option maxHeartbeats 4000000 in
set_option maxRecDepth 100000 in
theorem jX9_beside_24 {X : CX} {out : Int32 × Mem} (hE : Ends X SM (some (.int out.1)) out.2) (σ : Mem) (x1 : Int32) (x2 : Int32) (s0 : Int32) (s1 : Int32) (h : FX9_beside_24 σ x1 x2 s0 s1 = some out) : J X SM mX9_beside σ 24 [(0, .ref (xad X 0)), (1, .int x1), (2, .int x2)] [.int s0, .int s1] := by
  refine r_iadd dX9_beside_24 rfl ?_
  refine r_istore_n (fun x_12 => [(3, .int x_12), (0, .ref (xad X 0)), (1, .int x1), (2, .int x2)]) dX9_beside_25 rfl rfl (show 3 < 5 by decide) (fun _ => rfl) h (fun x_12 h => ?_)
  refine r_iload_n 2 dX9_beside_26 rfl rfl rfl ?_
  refine r_aload_n 1 dX9_beside_27 rfl rfl rfl ?_
  refine r_getI fg_RX9_118 rfl rfl dX9_beside_28 rfl ?_
  refine r_irem dX9_beside_31 rfl h (fun h => ?_)
  refine r_iload_n 3 dX9_beside_32 rfl rfl rfl ?_
  refine r_iconst dX9_beside_33 rfl ki_1 ?_
  refine r_icmp_ne dX9_beside_34 rfl rfl h (fun c h => ?_) (fun c h => ?_)
  · refine r_iload_n 3 dX9_beside_41 rfl rfl rfl ?_
    refine r_iconst dX9_beside_42 rfl ki_3 ?_
    refine r_icmp_ne dX9_beside_43 rfl rfl h (fun c h => ?_) (fun c h => ?_)
    · refine r_iconst dX9_beside_50 rfl ki_0 ?_
      refine r_sub [1, 0] rfl ?_
      exact jX9_beside_51 hE σ x_12 (0 : Int32) (x1 - x1 / (σ.1 0 2) * (σ.1 0 2)) h
    · refine r_iconst dX9_beside_46 rfl ki_m1 ?_
      refine r_goto dX9_beside_47 rfl ?_
      refine r_sub [1, 0] rfl ?_
      exact jX9_beside_51 hE σ x_12 (-1 : Int32) (x1 - x1 / (σ.1 0 2) * (σ.1 0 2)) h
  · refine r_iconst dX9_beside_37 rfl ki_1 ?_
    refine r_goto dX9_beside_38 rfl ?_
    refine r_sub [1, 0] rfl ?_
    exact jX9_beside_51 hE σ x_12 (1 : Int32) (x1 - x1 / (σ.1 0 2) * (σ.1 0 2)) h
noncomputable def FX9_beside (σ : Mem) (a1 : Int32) (a2 : Int32) : Option (Int32 × Mem) :=
  dzI (σ.1 0 2) <|
  if a2 = 0 then
  (FX9_beside_24 σ a1 a2 (-1 : Int32) (a1 / (σ.1 0 2)))
  else
  (if a2 = (2 : Int32) then
  (FX9_beside_24 σ a1 a2 (1 : Int32) (a1 / (σ.1 0 2)))
  else
  (FX9_beside_24 σ a1 a2 (0 : Int32) (a1 / (σ.1 0 2))))
set_option maxHeartbeats 4000000 in
set_option maxRecDepth 100000 in
theorem eX9_beside {X : CX} {out : Int32 × Mem} (hE : Ends X SM (some (.int out.1)) out.2) (σ : Mem) (a1 : Int32) (a2 : Int32) (h : FX9_beside σ a1 a2 = some out) : J X SM mX9_beside σ 0 [(0, .ref (xad X 0)), (1, .int a1), (2, .int a2)] [] := by
  refine r_iload_n 1 dX9_beside_0 rfl rfl rfl ?_
  refine r_aload_n 0 dX9_beside_1 rfl rfl rfl ?_
  refine r_getI fg_RX9_118 rfl rfl dX9_beside_2 rfl ?_
  refine r_idiv dX9_beside_5 rfl h (fun h => ?_)
  refine r_iload_n 2 dX9_beside_6 rfl rfl rfl ?_
  refine r_if_ne dX9_beside_7 rfl rfl h (fun c h => ?_) (fun c h => ?_)
  · refine r_iload_n 2 dX9_beside_14 rfl rfl rfl ?_
    refine r_iconst dX9_beside_15 rfl ki_2 ?_
    refine r_icmp_ne dX9_beside_16 rfl rfl h (fun c h => ?_) (fun c h => ?_)
    · refine r_iconst dX9_beside_23 rfl ki_0 ?_
      exact jX9_beside_24 hE σ a1 a2 (0 : Int32) (a1 / (σ.1 0 2)) h
    · refine r_iconst dX9_beside_19 rfl ki_1 ?_
      refine r_goto dX9_beside_20 rfl ?_
      exact jX9_beside_24 hE σ a1 a2 (1 : Int32) (a1 / (σ.1 0 2)) h
  · refine r_iconst dX9_beside_10 rfl ki_m1 ?_
    refine r_goto dX9_beside_11 rfl ?_
    exact jX9_beside_24 hE σ a1 a2 (-1 : Int32) (a1 / (σ.1 0 2)) h
theorem coX9_beside (σ : Mem) (a1 : Int32) (a2 : Int32) (r : Int32) (σ2 : Mem) (h : FX9_beside σ a1 a2 = some (r, σ2)) : Con SM 2 yX9_beside cX9_beside 5 (some .int) (fun ad => [.ref (ad 0), .int a1, .int a2]) σ (fun _ => some (.int r)) σ2 :=
  con_of (by decide +kernel) (fun _ => Nat.le_of_ble_eq_true rfl) (fun X hE => eX9_beside (out := (r, σ2)) hE σ a1 a2 h)
-- IceYardModel lost
abbrev mX9_lost : MD := (cX9_lost, RX9, 0, (some .long), 1)
noncomputable def FX9_lost (σ : Mem) : Option (Int64 × Mem) :=
  some ((-9223372036854775808 : Int64), σ)
set_option maxHeartbeats 4000000 in
set_option maxRecDepth 100000 in
theorem eX9_lost {X : CX} {out : Int64 × Mem} (hE : Ends X SM (some (.long out.1)) out.2) (σ : Mem) (h : FX9_lost σ = some out) : J X SM mX9_lost σ 0 [] [] := by
  refine r_ldc2 dX9_lost_0 rfl cl_RX9_105 ?_
  exact r_lret rfl dX9_lost_3 h hE
theorem coX9_lost (σ : Mem) (r : Int64) (σ2 : Mem) (h : FX9_lost σ = some (r, σ2)) : Con SM 1 yX9_lost cX9_lost 0 (some .long) (fun ad => []) σ (fun _ => some (.long r)) σ2 :=
  con_of (by decide +kernel) (fun _ => Nat.le_of_ble_eq_true rfl) (fun X hE => eX9_lost (out := (r, σ2)) hE σ h)
-- IceYardModel failedLong
abbrev mX9_failedLong : MD := (cX9_failedLong, RX9, 2, (some .long), 2)
noncomputable def FX9_failedLong (σ : Mem) (a1 : Int32) : Option (Int64 × Mem) :=
  nm (setI σ 0 0 a1) fun σ4 =>
  bi (FX9_lost σ4) fun r6 σ5 =>
  some (r6, σ5)
set_option maxHeartbeats 4000000 in
set_option maxRecDepth 100000 in
theorem eX9_failedLong {X : CX} {out : Int64 × Mem} (hE : Ends X SM (some (.long out.1)) out.2) (σ : Mem) (a1 : Int32) (h : FX9_failedLong σ a1 = some out) : J X SM mX9_failedLong σ 0 [(0, .ref (xad X 0)), (1, .int a1)] [] := by
  refine r_aload_n 0 dX9_failedLong_0 rfl rfl rfl ?_
  refine r_iload_n 1 dX9_failedLong_1 rfl rfl rfl ?_
  refine r_putI fp_RX9_107 rfl rfl dX9_failedLong_2 rfl h (fun σ4 h => ?_)
  obtain ⟨r6, σ5, hc, h⟩ := bi_of h
  refine r_callS [] [.long r6]  (coX9_lost σ4 r6 σ5 hc) ms_RX9_111 (by decide) rfl rfl (Nat.le_of_ble_eq_true rfl) rfl dX9_failedLong_5 rfl ?_
  exact r_lret rfl dX9_failedLong_8 h hE
theorem coX9_failedLong (σ : Mem) (a1 : Int32) (r : Int64) (σ2 : Mem) (h : FX9_failedLong σ a1 = some (r, σ2)) : Con SM 2 yX9_failedLong cX9_failedLong 2 (some .long) (fun ad => [.ref (ad 0), .int a1]) σ (fun _ => some (.long r)) σ2 :=
  con_of (by decide +kernel) (fun _ => Nat.le_of_ble_eq_true rfl) (fun X hE => eX9_failedLong (out := (r, σ2)) hE σ a1 h)
-- IceYardModel noCell
abbrev mX9_noCell : MD := (cX9_noCell, RX9, 3, (some .int), 2)
noncomputable def FX9_noCell (σ : Mem) (a1 : Int32) (a2 : Int32) : Option (Int32 × Mem) :=
  rd a1 4 fun j5 =>
  if 0 ≤ (σ.1 28 j5) then
  (rd a1 4 fun j6 =>
  bi (FX9_in σ ((a2).toInt64) (0 : Int64) ((((σ.1 28 j6)).toInt64) - (1 : Int64))) fun r8 σ7 =>
  if r8 = 0 then
  (some ((3 : Int32), σ7))
  else
  (some ((0 : Int32), σ7)))
  else
  (some ((1 : Int32), σ))
set_option maxHeartbeats 4000000 in
set_option maxRecDepth 100000 in
theorem eX9_noCell {X : CX} {out : Int32 × Mem} (hE : Ends X SM (some (.int out.1)) out.2) (σ : Mem) (a1 : Int32) (a2 : Int32) (h : FX9_noCell σ a1 a2 = some out) : J X SM mX9_noCell σ 0 [(0, .ref (xad X 0)), (1, .int a1), (2, .int a2)] [] := by
  refine r_aload_n 0 dX9_noCell_0 rfl rfl rfl ?_
  refine r_getR fg_RX9_93 rfl rfl dX9_noCell_1 rfl ?_
  refine r_iload_n 1 dX9_noCell_4 rfl rfl rfl ?_
  refine r_iald rfl dX9_noCell_5 rfl h (fun j5 h => ?_)
  refine r_if_ge dX9_noCell_6 rfl rfl h (fun c h => ?_) (fun c h => ?_)
  · refine r_iload_n 2 dX9_noCell_13 rfl rfl rfl ?_
    refine r_i2l dX9_noCell_14 rfl ?_
    refine r_lconst dX9_noCell_15 rfl kl_0 ?_
    refine r_aload_n 0 dX9_noCell_16 rfl rfl rfl ?_
    refine r_getR fg_RX9_93 rfl rfl dX9_noCell_17 rfl ?_
    refine r_iload_n 1 dX9_noCell_20 rfl rfl rfl ?_
    refine r_iald rfl dX9_noCell_21 rfl h (fun j6 h => ?_)
    refine r_i2l dX9_noCell_22 rfl ?_
    refine r_lconst dX9_noCell_23 rfl kl_1 ?_
    refine r_lsub dX9_noCell_24 rfl ?_
    obtain ⟨r8, σ7, hc, h⟩ := bi_of h
    refine r_callS [] [.int r8]  (coX9_in σ ((a2).toInt64) (0 : Int64) ((((σ.1 28 j6)).toInt64) - (1 : Int64)) r8 σ7 hc) ms_RX9_142 (by decide) rfl rfl (Nat.le_of_ble_eq_true rfl) rfl dX9_noCell_25 rfl ?_
    refine r_if_eq dX9_noCell_28 rfl rfl h (fun c h => ?_) (fun c h => ?_)
    · refine r_iconst dX9_noCell_35 rfl ki_3 ?_
      exact r_iret rfl dX9_noCell_36 h hE
    · refine r_iconst dX9_noCell_31 rfl ki_0 ?_
      refine r_goto dX9_noCell_32 rfl ?_
      exact r_iret rfl dX9_noCell_36 h hE
  · refine r_iconst dX9_noCell_9 rfl ki_1 ?_
    refine r_goto dX9_noCell_10 rfl ?_
    exact r_iret rfl dX9_noCell_36 h hE
theorem coX9_noCell (σ : Mem) (a1 : Int32) (a2 : Int32) (r : Int32) (σ2 : Mem) (h : FX9_noCell σ a1 a2 = some (r, σ2)) : Con SM 2 yX9_noCell cX9_noCell 3 (some .int) (fun ad => [.ref (ad 0), .int a1, .int a2]) σ (fun _ => some (.int r)) σ2 :=
  con_of (by decide +kernel) (fun _ => Nat.le_of_ble_eq_true rfl) (fun X hE => eX9_noCell (out := (r, σ2)) hE σ a1 a2 h)
-- IceYardModel noSheet
abbrev mX9_noSheet : MD := (cX9_noSheet, RX9, 1, (some .boolean), 2)
noncomputable def FX9_noSheet (σ : Mem) (a0 : Int32) : Option (Int32 × Mem) :=
  bi (FX9_in σ ((a0).toInt64) (0 : Int64) (3 : Int64)) fun r4 σ3 =>
  if r4 = 0 then
  (rz (1 : Int32) σ3)
  else
  (rz (0 : Int32) σ3)
set_option maxHeartbeats 4000000 in
set_option maxRecDepth 100000 in
theorem eX9_noSheet {X : CX} {out : Int32 × Mem} (hE : Ends X SM (some (.int out.1)) out.2) (σ : Mem) (a0 : Int32) (h : FX9_noSheet σ a0 = some out) : J X SM mX9_noSheet σ 0 [(0, .int a0)] [] := by
  refine r_iload_n 0 dX9_noSheet_0 rfl rfl rfl ?_
  refine r_i2l dX9_noSheet_1 rfl ?_
  refine r_lconst dX9_noSheet_2 rfl kl_0 ?_
  refine r_ldc2 dX9_noSheet_3 rfl cl_RX9_138 ?_
  obtain ⟨r4, σ3, hc, h⟩ := bi_of h
  refine r_callS [] [.int r4]  (coX9_in σ ((a0).toInt64) (0 : Int64) (3 : Int64) r4 σ3 hc) ms_RX9_142 (by decide) rfl rfl (Nat.le_of_ble_eq_true rfl) rfl dX9_noSheet_6 rfl ?_
  refine r_if_ne dX9_noSheet_9 rfl rfl h (fun c h => ?_) (fun c h => ?_)
  · refine r_iconst dX9_noSheet_16 rfl ki_0 ?_
    exact r_zret rfl dX9_noSheet_17 h hE
  · refine r_iconst dX9_noSheet_12 rfl ki_1 ?_
    refine r_goto dX9_noSheet_13 rfl ?_
    exact r_zret rfl dX9_noSheet_17 h hE
theorem coX9_noSheet (σ : Mem) (a0 : Int32) (r : Int32) (σ2 : Mem) (h : FX9_noSheet σ a0 = some (r, σ2)) : Con SM 2 yX9_noSheet cX9_noSheet 1 (some .boolean) (fun ad => [.int a0]) σ (fun _ => some (.int r)) σ2 :=
  con_of (by decide +kernel) (fun _ => Nat.le_of_ble_eq_true rfl) (fun X hE => eX9_noSheet (out := (r, σ2)) hE σ a0 h)
-- IceYardModel cell
abbrev mX9_cell : MD := (cX9_cell, RX9, 4, (some .long), 3)
noncomputable def FX9_cell_53 (σ : Mem) (x1 : Int32) (x2 : Int32) : Option (Int64 × Mem) :=
  bi (FX9_noCell σ x1 x2) fun r22 σ21 =>
  if r22 ≤ 0 then
  (rd (((60 : Int32) * x1) + x2) 240 fun j23 =>
  some ((((σ21.1 30 j23)).toInt64), σ21))
  else
  (bi (FX9_noCell σ21 x1 x2) fun r25 σ24 =>
  bi (FX9_failedLong σ24 r25) fun r27 σ26 =>
  some (r27, σ26))
set_option maxHeartbeats 4000000 in
set_option maxRecDepth 100000 in
theorem jX9_cell_53 {X : CX} {out : Int64 × Mem} (hE : Ends X SM (some (.long out.1)) out.2) (σ : Mem) (x1 : Int32) (x2 : Int32) (h : FX9_cell_53 σ x1 x2 = some out) : J X SM mX9_cell σ 53 [(0, .ref (xad X 0)), (1, .int x1), (2, .int x2)] [] := by
  refine r_aload_n 0 dX9_cell_53 rfl rfl rfl ?_
  refine r_iload_n 1 dX9_cell_54 rfl rfl rfl ?_
  refine r_iload_n 2 dX9_cell_55 rfl rfl rfl ?_
  obtain ⟨r22, σ21, hc, h⟩ := bi_of h
  refine r_callV [.int x1, .int x2] [] [.int r22]  (coX9_noCell σ x1 x2 r22 σ21 hc) mv_RX9_310 (by decide) rfl rfl rfl rfl rfl (Nat.le_of_ble_eq_true rfl) rfl dX9_cell_56 rfl ?_
  refine r_if_le dX9_cell_59 rfl rfl h (fun c h => ?_) (fun c h => ?_)
  · refine r_aload_n 0 dX9_cell_75 rfl rfl rfl ?_
    refine r_getR fg_RX9_99 rfl rfl dX9_cell_76 rfl ?_
    refine r_bipush dX9_cell_79 rfl kb_60 ?_
    refine r_iload_n 1 dX9_cell_81 rfl rfl rfl ?_
    refine r_imul dX9_cell_82 rfl ?_
    refine r_iload_n 2 dX9_cell_83 rfl rfl rfl ?_
    refine r_iadd dX9_cell_84 rfl ?_
    refine r_iald rfl dX9_cell_85 rfl h (fun j23 h => ?_)
    refine r_i2l dX9_cell_86 rfl ?_
    exact r_lret rfl dX9_cell_87 h hE
  · refine r_aload_n 0 dX9_cell_62 rfl rfl rfl ?_
    refine r_aload_n 0 dX9_cell_63 rfl rfl rfl ?_
    refine r_iload_n 1 dX9_cell_64 rfl rfl rfl ?_
    refine r_iload_n 2 dX9_cell_65 rfl rfl rfl ?_
    obtain ⟨r25, σ24, hc, h⟩ := bi_of h
    refine r_callV [.int x1, .int x2] [.ref (xad X 0)] [.int r25, .ref (xad X 0)]  (coX9_noCell σ21 x1 x2 r25 σ24 hc) mv_RX9_310 (by decide) rfl rfl rfl rfl rfl (Nat.le_of_ble_eq_true rfl) rfl dX9_cell_66 rfl ?_
    obtain ⟨r27, σ26, hc, h⟩ := bi_of h
    refine r_callV [.int r25] [] [.long r27]  (coX9_failedLong σ24 r25 r27 σ26 hc) mv_RX9_313 (by decide) rfl rfl rfl rfl rfl (Nat.le_of_ble_eq_true rfl) rfl dX9_cell_69 rfl ?_
    refine r_goto dX9_cell_72 rfl ?_
    exact r_lret rfl dX9_cell_87 h hE
noncomputable def FX9_cell (σ : Mem) (a1 : Int32) (a2 : Int32) (a3 : Int32) : Option (Int64 × Mem) :=
  nm (setI σ 0 0 (0 : Int32)) fun σ28 =>
  bi (FX9_noSheet σ28 a1) fun r30 σ29 =>
  if r30 = 0 then
  (bi (FX9_in σ29 ((a3).toInt64) (0 : Int64) (2 : Int64)) fun r34 σ33 =>
  if r34 = 0 then
  (bi (FX9_lost σ33) fun r40 σ39 =>
  some (r40, σ39))
  else
  (rd a1 4 fun j35 =>
  if (σ33.1 28 j35) < 0 then
  (FX9_cell_53 σ33 a1 a2)
  else
  (rd a1 4 fun j36 =>
  if (σ33.1 29 j36) = a3 then
  (FX9_cell_53 σ33 a1 a2)
  else
  (bi (FX9_failedLong σ33 (2 : Int32)) fun r38 σ37 =>
  some (r38, σ37)))))
  else
  (bi (FX9_lost σ29) fun r32 σ31 =>
  some (r32, σ31))
set_option maxHeartbeats 4000000 in
set_option maxRecDepth 100000 in
theorem eX9_cell {X : CX} {out : Int64 × Mem} (hE : Ends X SM (some (.long out.1)) out.2) (σ : Mem) (a1 : Int32) (a2 : Int32) (a3 : Int32) (h : FX9_cell σ a1 a2 a3 = some out) : J X SM mX9_cell σ 0 [(0, .ref (xad X 0)), (1, .int a1), (2, .int a2), (3, .int a3)] [] := by
  refine r_aload_n 0 dX9_cell_0 rfl rfl rfl ?_
  refine r_iconst dX9_cell_1 rfl ki_0 ?_
  refine r_putI fp_RX9_107 rfl rfl dX9_cell_2 rfl h (fun σ28 h => ?_)
  refine r_iload_n 1 dX9_cell_5 rfl rfl rfl ?_
  obtain ⟨r30, σ29, hc, h⟩ := bi_of h
  refine r_callS [] [.int r30]  (coX9_noSheet σ28 a1 r30 σ29 hc) ms_RX9_159 (by decide) rfl rfl (Nat.le_of_ble_eq_true rfl) rfl dX9_cell_6 rfl ?_
  refine r_if_ne dX9_cell_9 rfl rfl h (fun c h => ?_) (fun c h => ?_)
  · obtain ⟨r32, σ31, hc, h⟩ := bi_of h
    refine r_callS [] [.long r32]  (coX9_lost σ29 r32 σ31 hc) ms_RX9_111 (by decide) rfl rfl (Nat.le_of_ble_eq_true rfl) rfl dX9_cell_24 rfl ?_
    exact r_lret rfl dX9_cell_27 h hE
  · refine r_iload_n 3 dX9_cell_12 rfl rfl rfl ?_
    refine r_i2l dX9_cell_13 rfl ?_
    refine r_lconst dX9_cell_14 rfl kl_0 ?_
    refine r_ldc2 dX9_cell_15 rfl cl_RX9_166 ?_
    obtain ⟨r34, σ33, hc, h⟩ := bi_of h
    refine r_callS [] [.int r34]  (coX9_in σ29 ((a3).toInt64) (0 : Int64) (2 : Int64) r34 σ33 hc) ms_RX9_142 (by decide) rfl rfl (Nat.le_of_ble_eq_true rfl) rfl dX9_cell_18 rfl ?_
    refine r_if_ne dX9_cell_21 rfl rfl h (fun c h => ?_) (fun c h => ?_)
    · refine r_aload_n 0 dX9_cell_28 rfl rfl rfl ?_
      refine r_getR fg_RX9_93 rfl rfl dX9_cell_29 rfl ?_
      refine r_iload_n 1 dX9_cell_32 rfl rfl rfl ?_
      refine r_iald rfl dX9_cell_33 rfl h (fun j35 h => ?_)
      refine r_if_lt dX9_cell_34 rfl rfl h (fun c h => ?_) (fun c h => ?_)
      · refine r_sub [0, 1, 2] rfl ?_
        exact jX9_cell_53 hE σ33 a1 a2 h
      · refine r_aload_n 0 dX9_cell_37 rfl rfl rfl ?_
        refine r_getR fg_RX9_96 rfl rfl dX9_cell_38 rfl ?_
        refine r_iload_n 1 dX9_cell_41 rfl rfl rfl ?_
        refine r_iald rfl dX9_cell_42 rfl h (fun j36 h => ?_)
        refine r_iload_n 3 dX9_cell_43 rfl rfl rfl ?_
        refine r_icmp_eq dX9_cell_44 rfl rfl h (fun c h => ?_) (fun c h => ?_)
        · refine r_sub [0, 1, 2] rfl ?_
          exact jX9_cell_53 hE σ33 a1 a2 h
        · refine r_aload_n 0 dX9_cell_47 rfl rfl rfl ?_
          refine r_iconst dX9_cell_48 rfl ki_2 ?_
          obtain ⟨r38, σ37, hc, h⟩ := bi_of h
          refine r_callV [.int (2 : Int32)] [] [.long r38]  (coX9_failedLong σ33 (2 : Int32) r38 σ37 hc) mv_RX9_313 (by decide) rfl rfl rfl rfl rfl (Nat.le_of_ble_eq_true rfl) rfl dX9_cell_49 rfl ?_
          exact r_lret rfl dX9_cell_52 h hE
    · obtain ⟨r40, σ39, hc, h⟩ := bi_of h
      refine r_callS [] [.long r40]  (coX9_lost σ33 r40 σ39 hc) ms_RX9_111 (by decide) rfl rfl (Nat.le_of_ble_eq_true rfl) rfl dX9_cell_24 rfl ?_
      exact r_lret rfl dX9_cell_27 h hE
theorem coX9_cell (σ : Mem) (a1 : Int32) (a2 : Int32) (a3 : Int32) (r : Int64) (σ2 : Mem) (h : FX9_cell σ a1 a2 a3 = some (r, σ2)) : Con SM 3 yX9_cell cX9_cell 4 (some .long) (fun ad => [.ref (ad 0), .int a1, .int a2, .int a3]) σ (fun _ => some (.long r)) σ2 :=
  con_of (by decide +kernel) (fun _ => Nat.le_of_ble_eq_true rfl) (fun X hE => eX9_cell (out := (r, σ2)) hE σ a1 a2 a3 h)
-- IceYardModel codeAt
abbrev mX9_codeAt : MD := (cX9_codeAt, RX9, 3, (some .int), 1)
noncomputable def FX9_codeAt (σ : Mem) (a1 : Int32) (a2 : Int32) : Option (Int32 × Mem) :=
  if a2 ≤ (σ.1 0 9) then
  (some ((-9 : Int32), σ))
  else
  (rd (a1 + (σ.1 0 9)) 240 fun j2 =>
  some ((σ.1 30 j2), σ))
set_option maxHeartbeats 4000000 in
set_option maxRecDepth 100000 in
theorem eX9_codeAt {X : CX} {out : Int32 × Mem} (hE : Ends X SM (some (.int out.1)) out.2) (σ : Mem) (a1 : Int32) (a2 : Int32) (h : FX9_codeAt σ a1 a2 = some out) : J X SM mX9_codeAt σ 0 [(0, .ref (xad X 0)), (1, .int a1), (2, .int a2)] [] := by
  refine r_aload_n 0 dX9_codeAt_0 rfl rfl rfl ?_
  refine r_getI fg_RX9_121 rfl rfl dX9_codeAt_1 rfl ?_
  refine r_iload_n 2 dX9_codeAt_4 rfl rfl rfl ?_
  refine r_icmp_ge dX9_codeAt_5 rfl rfl h (fun c h => ?_) (fun c h => ?_)
  · refine r_bipush dX9_codeAt_22 rfl kb_m9 ?_
    exact r_iret rfl dX9_codeAt_24 h hE
  · refine r_aload_n 0 dX9_codeAt_8 rfl rfl rfl ?_
    refine r_getR fg_RX9_99 rfl rfl dX9_codeAt_9 rfl ?_
    refine r_iload_n 1 dX9_codeAt_12 rfl rfl rfl ?_
    refine r_aload_n 0 dX9_codeAt_13 rfl rfl rfl ?_
    refine r_getI fg_RX9_121 rfl rfl dX9_codeAt_14 rfl ?_
    refine r_iadd dX9_codeAt_17 rfl ?_
    refine r_iald rfl dX9_codeAt_18 rfl h (fun j2 h => ?_)
    refine r_goto dX9_codeAt_19 rfl ?_
    exact r_iret rfl dX9_codeAt_24 h hE
theorem coX9_codeAt (σ : Mem) (a1 : Int32) (a2 : Int32) (r : Int32) (σ2 : Mem) (h : FX9_codeAt σ a1 a2 = some (r, σ2)) : Con SM 1 yX9_codeAt cX9_codeAt 3 (some .int) (fun ad => [.ref (ad 0), .int a1, .int a2]) σ (fun _ => some (.int r)) σ2 :=
  con_of (by decide +kernel) (fun _ => Nat.le_of_ble_eq_true rfl) (fun X hE => eX9_codeAt (out := (r, σ2)) hE σ a1 a2 h)
-- IceYardModel codeOf
abbrev mX9_codeOf : MD := (cX9_codeOf, RX9, 2, (some .int), 1)
noncomputable def FX9_codeOf (σ : Mem) (a1 : Int32) : Option (Int32 × Mem) :=
  if a1 < 0 then
  (if a1 = (-6 : Int32) then
  (some ((36 : Int32), σ))
  else
  (if a1 = (-20 : Int32) then
  (some ((37 : Int32), σ))
  else
  (some ((38 : Int32), σ))))
  else
  (some (a1, σ))
set_option maxHeartbeats 4000000 in
set_option maxRecDepth 100000 in
theorem eX9_codeOf {X : CX} {out : Int32 × Mem} (hE : Ends X SM (some (.int out.1)) out.2) (σ : Mem) (a1 : Int32) (h : FX9_codeOf σ a1 = some out) : J X SM mX9_codeOf σ 0 [(0, .ref (xad X 0)), (1, .int a1)] [] := by
  refine r_iload_n 1 dX9_codeOf_0 rfl rfl rfl ?_
  refine r_if_lt dX9_codeOf_1 rfl rfl h (fun c h => ?_) (fun c h => ?_)
  · refine r_iload_n 1 dX9_codeOf_8 rfl rfl rfl ?_
    refine r_bipush dX9_codeOf_9 rfl kb_m6 ?_
    refine r_icmp_ne dX9_codeOf_11 rfl rfl h (fun c h => ?_) (fun c h => ?_)
    · refine r_iload_n 1 dX9_codeOf_19 rfl rfl rfl ?_
      refine r_bipush dX9_codeOf_20 rfl kb_m20 ?_
      refine r_icmp_ne dX9_codeOf_22 rfl rfl h (fun c h => ?_) (fun c h => ?_)
      · refine r_bipush dX9_codeOf_30 rfl kb_38 ?_
        exact r_iret rfl dX9_codeOf_32 h hE
      · refine r_bipush dX9_codeOf_25 rfl kb_37 ?_
        refine r_goto dX9_codeOf_27 rfl ?_
        exact r_iret rfl dX9_codeOf_32 h hE
    · refine r_bipush dX9_codeOf_14 rfl kb_36 ?_
      refine r_goto dX9_codeOf_16 rfl ?_
      exact r_iret rfl dX9_codeOf_32 h hE
  · refine r_iload_n 1 dX9_codeOf_4 rfl rfl rfl ?_
    refine r_goto dX9_codeOf_5 rfl ?_
    exact r_iret rfl dX9_codeOf_32 h hE
theorem coX9_codeOf (σ : Mem) (a1 : Int32) (r : Int32) (σ2 : Mem) (h : FX9_codeOf σ a1 = some (r, σ2)) : Con SM 1 yX9_codeOf cX9_codeOf 2 (some .int) (fun ad => [.ref (ad 0), .int a1]) σ (fun _ => some (.int r)) σ2 :=
  con_of (by decide +kernel) (fun _ => Nat.le_of_ble_eq_true rfl) (fun X hE => eX9_codeOf (out := (r, σ2)) hE σ a1 h)
-- IceYardModel give
abbrev mX9_give : MD := (cX9_give, RX9, 3, none, 1)
noncomputable def BX9_give_2 (rl2 : Mem → Int32 → Int32 → Option (Mem)) (σ : Mem) (x1 : Int32) (x2 : Int32) : Option (Mem) :=
  if (6 : Int32) ≤ x2 then
  (rd x1 5 fun j6 =>
  nm (setL σ 0 8 (σ.2 9 j6)) fun σ7 =>
  some σ7)
  else
  (rd (((6 : Int32) * x1) + x2) 30 fun j8 =>
  stI σ 4 6 x2 (σ.1 8 j8) fun σ9 =>
  nm (x2 + (1 : Int32)) fun x_10 =>
  rl2 σ9 x1 x_10)
set_option maxHeartbeats 4000000 in
set_option maxRecDepth 100000 in
theorem jX9_give_2 {X : CX} {out : Mem} (hE : Ends X SM none out) (rl2 : Mem → Int32 → Int32 → Option (Mem)) (hr2 : ∀ (σ : Mem) (x1 : Int32) (x2 : Int32), rl2 σ x1 x2 = some out → J X SM mX9_give σ 2 [(0, .ref (xad X 0)), (1, .int x1), (2, .int x2)] []) (σ : Mem) (x1 : Int32) (x2 : Int32) (h : BX9_give_2 rl2 σ x1 x2 = some out) : J X SM mX9_give σ 2 [(0, .ref (xad X 0)), (1, .int x1), (2, .int x2)] [] := by
  refine r_iload_n 2 dX9_give_2 rfl rfl rfl ?_
  refine r_bipush dX9_give_3 rfl kb_6 ?_
  refine r_icmp_ge dX9_give_5 rfl rfl h (fun c h => ?_) (fun c h => ?_)
  · refine r_aload_n 0 dX9_give_31 rfl rfl rfl ?_
    refine r_aload_n 0 dX9_give_32 rfl rfl rfl ?_
    refine r_getR fg_RX9_34 rfl rfl dX9_give_33 rfl ?_
    refine r_iload_n 1 dX9_give_36 rfl rfl rfl ?_
    refine r_lald rfl dX9_give_37 rfl h (fun j6 h => ?_)
    refine r_putL fp_RX9_186 rfl rfl dX9_give_38 rfl h (fun σ7 h => ?_)
    exact r_vret rfl dX9_give_41 h hE
  · refine r_aload_n 0 dX9_give_8 rfl rfl rfl ?_
    refine r_getR fg_RX9_19 rfl rfl dX9_give_9 rfl ?_
    refine r_iload_n 2 dX9_give_12 rfl rfl rfl ?_
    refine r_aload_n 0 dX9_give_13 rfl rfl rfl ?_
    refine r_getR fg_RX9_31 rfl rfl dX9_give_14 rfl ?_
    refine r_bipush dX9_give_17 rfl kb_6 ?_
    refine r_iload_n 1 dX9_give_19 rfl rfl rfl ?_
    refine r_imul dX9_give_20 rfl ?_
    refine r_iload_n 2 dX9_give_21 rfl rfl rfl ?_
    refine r_iadd dX9_give_22 rfl ?_
    refine r_iald rfl dX9_give_23 rfl h (fun j8 h => ?_)
    refine r_iast rfl dX9_give_24 rfl h (fun σ9 h => ?_)
    refine r_iinc 2 (fun x_10 => [(2, .int x_10), (0, .ref (xad X 0)), (1, .int x1)]) dX9_give_25 rfl rfl ki_1 (show 2 < 3 by decide) (fun _ => rfl) h (fun x_10 h => ?_)
    refine r_goto dX9_give_28 rfl ?_
    refine r_sub [1, 2, 0] rfl ?_
    exact hr2 σ9 x1 x_10 h
noncomputable def FX9_give_2 (n : Nat) : Mem → Int32 → Int32 → Option (Mem) :=
  Nat.rec (fun _ _ _ => none) (fun _ ih => BX9_give_2 ih) n
theorem lX9_give_2 {X : CX} {out : Mem} (hE : Ends X SM none out) : ∀ (n : Nat) (σ : Mem) (x1 : Int32) (x2 : Int32), FX9_give_2 n σ x1 x2 = some out → J X SM mX9_give σ 2 [(0, .ref (xad X 0)), (1, .int x1), (2, .int x2)] [] := by
  intro n
  induction n with
  | zero => intro σ x1 x2 h; exact nn h
  | succ n ih => intro σ x1 x2 h; exact jX9_give_2 hE (FX9_give_2 n) ih σ x1 x2 h
noncomputable def FX9_give (σ : Mem) (a1 : Int32) : Option (Mem) :=
  FX9_give_2 FU σ a1 (0 : Int32)
set_option maxHeartbeats 4000000 in
set_option maxRecDepth 100000 in
theorem eX9_give {X : CX} {out : Mem} (hE : Ends X SM none out) (σ : Mem) (a1 : Int32) (h : FX9_give σ a1 = some out) : J X SM mX9_give σ 0 [(0, .ref (xad X 0)), (1, .int a1)] [] := by
  refine r_iconst dX9_give_0 rfl ki_0 ?_
  refine r_istoreV_n [(2, .int (0 : Int32)), (0, .ref (xad X 0)), (1, .int a1)] dX9_give_1 rfl rfl (show 2 < 3 by decide) rfl ?_
  refine r_sub [1, 2, 0] rfl ?_
  exact lX9_give_2 hE FU σ a1 (0 : Int32) h
theorem coX9_give (σ : Mem) (a1 : Int32) (σ2 : Mem) (h : FX9_give σ a1 = some σ2) : Con SM 1 yX9_give cX9_give 3 none (fun ad => [.ref (ad 0), .int a1]) σ (fun _ => none) σ2 :=
  con_of (by decide +kernel) (fun _ => Nat.le_of_ble_eq_true rfl) (fun X hE => eX9_give (out := σ2) hE σ a1 h)

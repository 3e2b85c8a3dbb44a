-- IceYard$Search goOnFrom
abbrev mX4_goOnFrom : MD := (cX4_goOnFrom, RX4, 7, (some .int), 5)
noncomputable def BX4_goOnFrom_38 (rl23 : Mem → Int32 → Int32 → Int64 → Int32 → Option (Int32 × Mem)) (rl38 : Mem → Int32 → Int32 → Int64 → Int32 → Int32 → Option (Int32 × Mem)) (σ : Mem) (x1 : Int32) (x2 : Int32) (x3 : Int64) (x5 : Int32) (x6 : Int32) : Option (Int32 × Mem) :=
  if (4 : Int32) ≤ x6 then
  (nm (x5 + (1 : Int32)) fun x_15 =>
  rl23 σ x1 x2 x3 x_15)
  else
  (bi (FX6_goes σ x3 x5 x6) fun r17 σ16 =>
  if r17 = 0 then
  (nm (x6 + (1 : Int32)) fun x_26 =>
  rl38 σ16 x1 x2 x3 x5 x_26)
  else
  (if (σ16.1 2 9) = x2 then
  (bi (FX8_pushNumber σ16 x5 x6) fun r24 σ23 =>
  bv (FX4_writeRow σ23 x1 r24) fun σ25 =>
  some ((σ25.1 3 8), σ25))
  else
  (bi (FX8_pushNumber σ16 x5 x6) fun r19 σ18 =>
  bi (FX4_note σ18 (σ16.2 2 6) x1 r19) fun r21 σ20 =>
  if r21 = 0 then
  (some ((-5 : Int32), σ20))
  else
  (nm (x6 + (1 : Int32)) fun x_22 =>
  rl38 σ20 x1 x2 x3 x5 x_22))))
set_option maxHeartbeats 4000000 in
set_option maxRecDepth 100000 in
theorem jX4_goOnFrom_38 {X : CX} {out : Int32 × Mem} (hE : Ends X SX (some (.int out.1)) out.2) (rl23 : Mem → Int32 → Int32 → Int64 → Int32 → Option (Int32 × Mem)) (hr23 : ∀ (σ : Mem) (x1 : Int32) (x2 : Int32) (x3 : Int64) (x5 : Int32), rl23 σ x1 x2 x3 x5 = some out → J X SX mX4_goOnFrom σ 23 [(0, .ref (xad X 3)), (1, .int x1), (2, .int x2), (3, .long x3), (5, .int x5)] []) (rl38 : Mem → Int32 → Int32 → Int64 → Int32 → Int32 → Option (Int32 × Mem)) (hr38 : ∀ (σ : Mem) (x1 : Int32) (x2 : Int32) (x3 : Int64) (x5 : Int32) (x6 : Int32), rl38 σ x1 x2 x3 x5 x6 = some out → J X SX mX4_goOnFrom σ 38 [(0, .ref (xad X 3)), (1, .int x1), (2, .int x2), (3, .long x3), (5, .int x5), (6, .int x6)] []) (σ : Mem) (x1 : Int32) (x2 : Int32) (x3 : Int64) (x5 : Int32) (x6 : Int32) (h : BX4_goOnFrom_38 rl23 rl38 σ x1 x2 x3 x5 x6 = some out) : J X SX mX4_goOnFrom σ 38 [(0, .ref (xad X 3)), (1, .int x1), (2, .int x2), (3, .long x3), (5, .int x5), (6, .int x6)] [] := by
  refine r_iload 5 dX4_goOnFrom_38 rfl rfl ?_
  refine r_iconst dX4_goOnFrom_40 rfl ki_4 ?_
  refine r_icmp_ge dX4_goOnFrom_41 rfl rfl h (fun c h => ?_) (fun c h => ?_)
  · refine r_iinc 4 (fun x_15 => [(5, .int x_15), (0, .ref (xad X 3)), (1, .int x1), (2, .int x2), (3, .long x3), (6, .int x6)]) dX4_goOnFrom_121 rfl rfl ki_1 (show 5 < 7 by decide) (fun _ => rfl) h (fun x_15 h => ?_)
    refine r_goto dX4_goOnFrom_124 rfl ?_
    refine r_sub [1, 2, 3, 4, 0] rfl ?_
    exact hr23 σ x1 x2 x3 x_15 h
  · refine r_aload_n 0 dX4_goOnFrom_44 rfl rfl rfl ?_
    refine r_getR fg_RX4_32 rfl rfl dX4_goOnFrom_45 rfl ?_
    refine r_lload_n 3 dX4_goOnFrom_48 rfl rfl rfl ?_
    refine r_iload 4 dX4_goOnFrom_49 rfl rfl ?_
    refine r_iload 5 dX4_goOnFrom_51 rfl rfl ?_
    obtain ⟨r17, σ16, hc, h⟩ := bi_of h
    refine r_callV [.long x3, .int x5, .int x6] [] [.int r17]  (coX6_goes σ x3 x5 x6 r17 σ16 hc) mv_RX4_62 (by decide) rfl rfl rfl rfl rfl (Nat.le_of_ble_eq_true rfl) rfl dX4_goOnFrom_53 rfl ?_
    refine r_if_ne dX4_goOnFrom_56 rfl rfl h (fun c h => ?_) (fun c h => ?_)
    · refine r_aload_n 0 dX4_goOnFrom_62 rfl rfl rfl ?_
      refine r_getR fg_RX4_32 rfl rfl dX4_goOnFrom_63 rfl ?_
      refine r_getI fg_RX4_67 rfl rfl dX4_goOnFrom_66 rfl ?_
      refine r_iload_n 2 dX4_goOnFrom_69 rfl rfl rfl ?_
      refine r_icmp_ne dX4_goOnFrom_70 rfl rfl h (fun c h => ?_) (fun c h => ?_)
      · refine r_aload_n 0 dX4_goOnFrom_90 rfl rfl rfl ?_
        refine r_aload_n 0 dX4_goOnFrom_91 rfl rfl rfl ?_
        refine r_getR fg_RX4_32 rfl rfl dX4_goOnFrom_92 rfl ?_
        refine r_getL fg_RX4_77 rfl rfl dX4_goOnFrom_95 rfl ?_
        refine r_iload_n 1 dX4_goOnFrom_98 rfl rfl rfl ?_
        refine r_iload 4 dX4_goOnFrom_99 rfl rfl ?_
        refine r_iload 5 dX4_goOnFrom_101 rfl rfl ?_
        obtain ⟨r19, σ18, hc, h⟩ := bi_of h
        refine r_callN [.int x1, .long (σ16.2 2 6), .ref (xad X 3)] [.int r19, .int x1, .long (σ16.2 2 6), .ref (xad X 3)]  (coX8_pushNumber σ16 x5 x6 r19 σ18 hc) mn_RX4_70 (by decide) rfl rfl (Nat.le_of_ble_eq_true rfl) rfl dX4_goOnFrom_103 rfl ?_
        obtain ⟨r21, σ20, hc, h⟩ := bi_of h
        refine r_callV [.long (σ16.2 2 6), .int x1, .int r19] [] [.int r21]  (coX4_note σ18 (σ16.2 2 6) x1 r19 r21 σ20 hc) mv_RX4_49 (by decide) rfl rfl rfl rfl rfl (Nat.le_of_ble_eq_true rfl) rfl dX4_goOnFrom_106 rfl ?_
        refine r_if_ne dX4_goOnFrom_109 rfl rfl h (fun c h => ?_) (fun c h => ?_)
        · refine r_iinc 5 (fun x_22 => [(6, .int x_22), (0, .ref (xad X 3)), (1, .int x1), (2, .int x2), (3, .long x3), (5, .int x5)]) dX4_goOnFrom_115 rfl rfl ki_1 (show 6 < 7 by decide) (fun _ => rfl) h (fun x_22 h => ?_)
          refine r_goto dX4_goOnFrom_118 rfl ?_
          refine r_sub [1, 2, 3, 4, 5, 0] rfl ?_
          exact hr38 σ20 x1 x2 x3 x5 x_22 h
        · refine r_bipush dX4_goOnFrom_112 rfl kb_m5 ?_
          exact r_iret rfl dX4_goOnFrom_114 h hE
      · refine r_aload_n 0 dX4_goOnFrom_73 rfl rfl rfl ?_
        refine r_iload_n 1 dX4_goOnFrom_74 rfl rfl rfl ?_
        refine r_iload 4 dX4_goOnFrom_75 rfl rfl ?_
        refine r_iload 5 dX4_goOnFrom_77 rfl rfl ?_
        obtain ⟨r24, σ23, hc, h⟩ := bi_of h
        refine r_callN [.int x1, .ref (xad X 3)] [.int r24, .int x1, .ref (xad X 3)]  (coX8_pushNumber σ16 x5 x6 r24 σ23 hc) mn_RX4_70 (by decide) rfl rfl (Nat.le_of_ble_eq_true rfl) rfl dX4_goOnFrom_79 rfl ?_
        obtain ⟨σ25, hc, h⟩ := bv_of h
        refine r_callV [.int x1, .int r24] [] []  (coX4_writeRow σ23 x1 r24 σ25 hc) mv_RX4_73 (by decide) rfl rfl rfl rfl rfl (Nat.le_of_ble_eq_true rfl) rfl dX4_goOnFrom_82 rfl ?_
        refine r_aload_n 0 dX4_goOnFrom_85 rfl rfl rfl ?_
        refine r_getI fg_RX4_46 rfl rfl dX4_goOnFrom_86 rfl ?_
        exact r_iret rfl dX4_goOnFrom_89 h hE
    · refine r_goto dX4_goOnFrom_59 rfl ?_
      refine r_iinc 5 (fun x_26 => [(6, .int x_26), (0, .ref (xad X 3)), (1, .int x1), (2, .int x2), (3, .long x3), (5, .int x5)]) dX4_goOnFrom_115 rfl rfl ki_1 (show 6 < 7 by decide) (fun _ => rfl) h (fun x_26 h => ?_)
      refine r_goto dX4_goOnFrom_118 rfl ?_
      refine r_sub [1, 2, 3, 4, 5, 0] rfl ?_
      exact hr38 σ16 x1 x2 x3 x5 x_26 h
noncomputable def FX4_goOnFrom_38 (rl23 : Mem → Int32 → Int32 → Int64 → Int32 → Option (Int32 × Mem)) (n : Nat) : Mem → Int32 → Int32 → Int64 → Int32 → Int32 → Option (Int32 × Mem) :=
  Nat.rec (fun _ _ _ _ _ _ => none) (fun _ ih => BX4_goOnFrom_38 rl23 ih) n
theorem lX4_goOnFrom_38 {X : CX} {out : Int32 × Mem} (hE : Ends X SX (some (.int out.1)) out.2) (rl23 : Mem → Int32 → Int32 → Int64 → Int32 → Option (Int32 × Mem)) (hr23 : ∀ (σ : Mem) (x1 : Int32) (x2 : Int32) (x3 : Int64) (x5 : Int32), rl23 σ x1 x2 x3 x5 = some out → J X SX mX4_goOnFrom σ 23 [(0, .ref (xad X 3)), (1, .int x1), (2, .int x2), (3, .long x3), (5, .int x5)] []) : ∀ (n : Nat) (σ : Mem) (x1 : Int32) (x2 : Int32) (x3 : Int64) (x5 : Int32) (x6 : Int32), FX4_goOnFrom_38 rl23 n σ x1 x2 x3 x5 x6 = some out → J X SX mX4_goOnFrom σ 38 [(0, .ref (xad X 3)), (1, .int x1), (2, .int x2), (3, .long x3), (5, .int x5), (6, .int x6)] [] := by
  intro n
  induction n with
  | zero => intro σ x1 x2 x3 x5 x6 h; exact nn h
  | succ n ih => intro σ x1 x2 x3 x5 x6 h; exact jX4_goOnFrom_38 hE rl23 hr23 (FX4_goOnFrom_38 rl23 n) ih σ x1 x2 x3 x5 x6 h
noncomputable def BX4_goOnFrom_23 (rl23 : Mem → Int32 → Int32 → Int64 → Int32 → Option (Int32 × Mem)) (σ : Mem) (x1 : Int32) (x2 : Int32) (x3 : Int64) (x5 : Int32) : Option (Int32 × Mem) :=
  if (σ.1 1 6) ≤ x5 then
  (some ((0 : Int32), σ))
  else
  (FX4_goOnFrom_38 rl23 FU σ x1 x2 x3 x5 (0 : Int32))
set_option maxHeartbeats 4000000 in
set_option maxRecDepth 100000 in
theorem jX4_goOnFrom_23 {X : CX} {out : Int32 × Mem} (hE : Ends X SX (some (.int out.1)) out.2) (rl23 : Mem → Int32 → Int32 → Int64 → Int32 → Option (Int32 × Mem)) (hr23 : ∀ (σ : Mem) (x1 : Int32) (x2 : Int32) (x3 : Int64) (x5 : Int32), rl23 σ x1 x2 x3 x5 = some out → J X SX mX4_goOnFrom σ 23 [(0, .ref (xad X 3)), (1, .int x1), (2, .int x2), (3, .long x3), (5, .int x5)] []) (σ : Mem) (x1 : Int32) (x2 : Int32) (x3 : Int64) (x5 : Int32) (h : BX4_goOnFrom_23 rl23 σ x1 x2 x3 x5 = some out) : J X SX mX4_goOnFrom σ 23 [(0, .ref (xad X 3)), (1, .int x1), (2, .int x2), (3, .long x3), (5, .int x5)] [] := by
  refine r_iload 4 dX4_goOnFrom_23 rfl rfl ?_
  refine r_aload_n 0 dX4_goOnFrom_25 rfl rfl rfl ?_
  refine r_getR fg_RX4_28 rfl rfl dX4_goOnFrom_26 rfl ?_
  refine r_getI fg_RX4_57 rfl rfl dX4_goOnFrom_29 rfl ?_
  refine r_icmp_ge dX4_goOnFrom_32 rfl rfl h (fun c h => ?_) (fun c h => ?_)
  · refine r_iconst dX4_goOnFrom_127 rfl ki_0 ?_
    exact r_iret rfl dX4_goOnFrom_128 h hE
  · refine r_iconst dX4_goOnFrom_35 rfl ki_0 ?_
    refine r_istoreV [(6, .int (0 : Int32)), (0, .ref (xad X 3)), (1, .int x1), (2, .int x2), (3, .long x3), (5, .int x5)] dX4_goOnFrom_36 rfl (show 6 < 7 by decide) rfl ?_
    refine r_sub [1, 2, 3, 4, 5, 0] rfl ?_
    exact lX4_goOnFrom_38 hE rl23 hr23 FU σ x1 x2 x3 x5 (0 : Int32) h
noncomputable def FX4_goOnFrom_23 (n : Nat) : Mem → Int32 → Int32 → Int64 → Int32 → Option (Int32 × Mem) :=
  Nat.rec (fun _ _ _ _ _ => none) (fun _ ih => BX4_goOnFrom_23 ih) n
theorem lX4_goOnFrom_23 {X : CX} {out : Int32 × Mem} (hE : Ends X SX (some (.int out.1)) out.2) : ∀ (n : Nat) (σ : Mem) (x1 : Int32) (x2 : Int32) (x3 : Int64) (x5 : Int32), FX4_goOnFrom_23 n σ x1 x2 x3 x5 = some out → J X SX mX4_goOnFrom σ 23 [(0, .ref (xad X 3)), (1, .int x1), (2, .int x2), (3, .long x3), (5, .int x5)] [] := by
  intro n
  induction n with
  | zero => intro σ x1 x2 x3 x5 h; exact nn h
  | succ n ih => intro σ x1 x2 x3 x5 h; exact jX4_goOnFrom_23 hE (FX4_goOnFrom_23 n) ih σ x1 x2 x3 x5 h
noncomputable def FX4_goOnFrom (σ : Mem) (a1 : Int32) (a2 : Int32) : Option (Int32 × Mem) :=
  if a1 < 0 then
  (some ((0 : Int32), σ))
  else
  (if a1 < (1500 : Int32) then
  (rd a1 1500 fun j27 =>
  nm (σ.2 23 j27) fun x_28 =>
  FX4_goOnFrom_23 FU σ a1 a2 x_28 (0 : Int32))
  else
  (some ((0 : Int32), σ)))
set_option maxHeartbeats 4000000 in
set_option maxRecDepth 100000 in
theorem eX4_goOnFrom {X : CX} {out : Int32 × Mem} (hE : Ends X SX (some (.int out.1)) out.2) (σ : Mem) (a1 : Int32) (a2 : Int32) (h : FX4_goOnFrom σ a1 a2 = some out) : J X SX mX4_goOnFrom σ 0 [(0, .ref (xad X 3)), (1, .int a1), (2, .int a2)] [] := by
  refine r_iload_n 1 dX4_goOnFrom_0 rfl rfl rfl ?_
  refine r_if_lt dX4_goOnFrom_1 rfl rfl h (fun c h => ?_) (fun c h => ?_)
  · refine r_iconst dX4_goOnFrom_11 rfl ki_0 ?_
    exact r_iret rfl dX4_goOnFrom_12 h hE
  · refine r_iload_n 1 dX4_goOnFrom_4 rfl rfl rfl ?_
    refine r_sipush dX4_goOnFrom_5 rfl ks_1500 ?_
    refine r_icmp_lt dX4_goOnFrom_8 rfl rfl h (fun c h => ?_) (fun c h => ?_)
    · refine r_aload_n 0 dX4_goOnFrom_13 rfl rfl rfl ?_
      refine r_getR fg_RX4_11 rfl rfl dX4_goOnFrom_14 rfl ?_
      refine r_iload_n 1 dX4_goOnFrom_17 rfl rfl rfl ?_
      refine r_lald rfl dX4_goOnFrom_18 rfl h (fun j27 h => ?_)
      refine r_lstore_n (fun x_28 => [(3, .long x_28), (0, .ref (xad X 3)), (1, .int a1), (2, .int a2)]) dX4_goOnFrom_19 rfl rfl (show 3 + 1 < 7 by decide) (fun _ => rfl) h (fun x_28 h => ?_)
      refine r_iconst dX4_goOnFrom_20 rfl ki_0 ?_
      refine r_istoreV [(5, .int (0 : Int32)), (3, .long x_28), (0, .ref (xad X 3)), (1, .int a1), (2, .int a2)] dX4_goOnFrom_21 rfl (show 5 < 7 by decide) rfl ?_
      refine r_sub [2, 3, 4, 1, 0] rfl ?_
      exact lX4_goOnFrom_23 hE FU σ a1 a2 x_28 (0 : Int32) h
    · refine r_iconst dX4_goOnFrom_11 rfl ki_0 ?_
      exact r_iret rfl dX4_goOnFrom_12 h hE
theorem coX4_goOnFrom (σ : Mem) (a1 : Int32) (a2 : Int32) (r : Int32) (σ2 : Mem) (h : FX4_goOnFrom σ a1 a2 = some (r, σ2)) : Con SX 5 yX4_goOnFrom cX4_goOnFrom 7 (some .int) (fun ad => [.ref (ad 3), .int a1, .int a2]) σ (fun _ => some (.int r)) σ2 :=
  con_of (by decide +kernel) (fun _ => Nat.le_of_ble_eq_true rfl) (fun X hE => eX4_goOnFrom (out := (r, σ2)) hE σ a1 a2 h)
-- IceYard$Search fewestPushes
abbrev mX4_fewestPushes : MD := (cX4_fewestPushes, RX4, 6, (some .int), 6)
noncomputable def BX4_fewestPushes_29 (rl29 : Mem → Int32 → Int32 → Option (Int32 × Mem)) (σ : Mem) (x3 : Int32) (x4 : Int32) : Option (Int32 × Mem) :=
  if (σ.1 3 7) ≤ x4 then
  (some ((-9 : Int32), σ))
  else
  (if (1500 : Int32) ≤ x4 then
  (some ((-9 : Int32), σ))
  else
  (bi (FX4_goOnFrom σ x4 x3) fun r10 σ9 =>
  if r10 = 0 then
  (nm (x4 + (1 : Int32)) fun x_11 =>
  rl29 σ9 x3 x_11)
  else
  (some (r10, σ9))))
set_option maxHeartbeats 4000000 in
set_option maxRecDepth 100000 in
theorem jX4_fewestPushes_29 {X : CX} {out : Int32 × Mem} (hE : Ends X SX (some (.int out.1)) out.2) (rl29 : Mem → Int32 → Int32 → Option (Int32 × Mem)) (hr29 : ∀ (σ : Mem) (x3 : Int32) (x4 : Int32), rl29 σ x3 x4 = some out → J X SX mX4_fewestPushes σ 29 [(0, .ref (xad X 3)), (3, .int x3), (4, .int x4)] []) (σ : Mem) (x3 : Int32) (x4 : Int32) (h : BX4_fewestPushes_29 rl29 σ x3 x4 = some out) : J X SX mX4_fewestPushes σ 29 [(0, .ref (xad X 3)), (3, .int x3), (4, .int x4)] [] := by
  refine r_iload 2 dX4_fewestPushes_29 rfl rfl ?_
  refine r_aload_n 0 dX4_fewestPushes_31 rfl rfl rfl ?_
  refine r_getI fg_RX4_42 rfl rfl dX4_fewestPushes_32 rfl ?_
  refine r_icmp_ge dX4_fewestPushes_35 rfl rfl h (fun c h => ?_) (fun c h => ?_)
  · refine r_bipush dX4_fewestPushes_69 rfl kb_m9 ?_
    exact r_iret rfl dX4_fewestPushes_71 h hE
  · refine r_iload 2 dX4_fewestPushes_38 rfl rfl ?_
    refine r_sipush dX4_fewestPushes_40 rfl ks_1500 ?_
    refine r_icmp_ge dX4_fewestPushes_43 rfl rfl h (fun c h => ?_) (fun c h => ?_)
    · refine r_bipush dX4_fewestPushes_69 rfl kb_m9 ?_
      exact r_iret rfl dX4_fewestPushes_71 h hE
    · refine r_aload_n 0 dX4_fewestPushes_46 rfl rfl rfl ?_
      refine r_iload 2 dX4_fewestPushes_47 rfl rfl ?_
      refine r_iload_n 1 dX4_fewestPushes_49 rfl rfl rfl ?_
      obtain ⟨r10, σ9, hc, h⟩ := bi_of h
      refine r_callV [.int x4, .int x3] [] [.int r10]  (coX4_goOnFrom σ x4 x3 r10 σ9 hc) mv_RX4_53 (by decide) rfl rfl rfl rfl rfl (Nat.le_of_ble_eq_true rfl) rfl dX4_fewestPushes_50 rfl ?_
      refine r_istoreV [(5, .int r10), (0, .ref (xad X 3)), (3, .int x3), (4, .int x4)] dX4_fewestPushes_53 rfl (show 5 < 6 by decide) rfl ?_
      refine r_iload 0 dX4_fewestPushes_55 rfl rfl ?_
      refine r_if_eq dX4_fewestPushes_57 rfl rfl h (fun c h => ?_) (fun c h => ?_)
      · refine r_iinc 3 (fun x_11 => [(4, .int x_11), (5, .int r10), (0, .ref (xad X 3)), (3, .int x3)]) dX4_fewestPushes_63 rfl rfl ki_1 (show 4 < 6 by decide) (fun _ => rfl) h (fun x_11 h => ?_)
        refine r_goto dX4_fewestPushes_66 rfl ?_
        refine r_sub [2, 3, 0] rfl ?_
        exact hr29 σ9 x3 x_11 h
      · refine r_iload 0 dX4_fewestPushes_60 rfl rfl ?_
        exact r_iret rfl dX4_fewestPushes_62 h hE
noncomputable def FX4_fewestPushes_29 (n : Nat) : Mem → Int32 → Int32 → Option (Int32 × Mem) :=
  Nat.rec (fun _ _ _ => none) (fun _ ih => BX4_fewestPushes_29 ih) n
theorem lX4_fewestPushes_29 {X : CX} {out : Int32 × Mem} (hE : Ends X SX (some (.int out.1)) out.2) : ∀ (n : Nat) (σ : Mem) (x3 : Int32) (x4 : Int32), FX4_fewestPushes_29 n σ x3 x4 = some out → J X SX mX4_fewestPushes σ 29 [(0, .ref (xad X 3)), (3, .int x3), (4, .int x4)] [] := by
  intro n
  induction n with
  | zero => intro σ x3 x4 h; exact nn h
  | succ n ih => intro σ x3 x4 h; exact jX4_fewestPushes_29 hE (FX4_fewestPushes_29 n) ih σ x3 x4 h
noncomputable def FX4_fewestPushes (σ : Mem) (a1 : Int64) (a3 : Int32) : Option (Int32 × Mem) :=
  bv (FJ7_fill_53178 27 4096 σ (0 : Int32)) fun σ12 =>
  nm (setI σ12 3 7 (0 : Int32)) fun σ13 =>
  nm (setI σ13 3 8 (0 : Int32)) fun σ14 =>
  bi (FX4_note σ14 a1 (-1 : Int32) (0 : Int32)) fun r16 σ15 =>
  FX4_fewestPushes_29 FU σ15 a3 (0 : Int32)
set_option maxHeartbeats 4000000 in
set_option maxRecDepth 100000 in
theorem eX4_fewestPushes {X : CX} {out : Int32 × Mem} (hE : Ends X SX (some (.int out.1)) out.2) (σ : Mem) (a1 : Int64) (a3 : Int32) (h : FX4_fewestPushes σ a1 a3 = some out) : J X SX mX4_fewestPushes σ 0 [(0, .ref (xad X 3)), (1, .long a1), (3, .int a3)] [] := by
  refine r_aload_n 0 dX4_fewestPushes_0 rfl rfl rfl ?_
  refine r_getR fg_RX4_25 rfl rfl dX4_fewestPushes_1 rfl ?_
  refine r_iconst dX4_fewestPushes_4 rfl ki_0 ?_
  obtain ⟨σ12, hc, h⟩ := bv_of h
  refine r_callS [] []  (coJ7_fill_53178 27 4096 rfl σ (0 : Int32) σ12 hc) ms_RX4_36 (by decide) rfl rfl (Nat.le_of_ble_eq_true rfl) rfl dX4_fewestPushes_5 rfl ?_
  refine r_aload_n 0 dX4_fewestPushes_8 rfl rfl rfl ?_
  refine r_iconst dX4_fewestPushes_9 rfl ki_0 ?_
  refine r_putI fp_RX4_42 rfl rfl dX4_fewestPushes_10 rfl h (fun σ13 h => ?_)
  refine r_aload_n 0 dX4_fewestPushes_13 rfl rfl rfl ?_
  refine r_iconst dX4_fewestPushes_14 rfl ki_0 ?_
  refine r_putI fp_RX4_46 rfl rfl dX4_fewestPushes_15 rfl h (fun σ14 h => ?_)
  refine r_aload_n 0 dX4_fewestPushes_18 rfl rfl rfl ?_
  refine r_lload_n 1 dX4_fewestPushes_19 rfl rfl rfl ?_
  refine r_iconst dX4_fewestPushes_20 rfl ki_m1 ?_
  refine r_iconst dX4_fewestPushes_21 rfl ki_0 ?_
  obtain ⟨r16, σ15, hc, h⟩ := bi_of h
  refine r_callV [.long a1, .int (-1 : Int32), .int (0 : Int32)] [] [.int r16]  (coX4_note σ14 a1 (-1 : Int32) (0 : Int32) r16 σ15 hc) mv_RX4_49 (by decide) rfl rfl rfl rfl rfl (Nat.le_of_ble_eq_true rfl) rfl dX4_fewestPushes_22 rfl ?_
  refine r_pop dX4_fewestPushes_25 rfl rfl ?_
  refine r_iconst dX4_fewestPushes_26 rfl ki_0 ?_
  refine r_istoreV [(4, .int (0 : Int32)), (0, .ref (xad X 3)), (1, .long a1), (3, .int a3)] dX4_fewestPushes_27 rfl (show 4 < 6 by decide) rfl ?_
  refine r_sub [1, 3, 0] rfl ?_
  exact lX4_fewestPushes_29 hE FU σ15 a3 (0 : Int32) h
theorem coX4_fewestPushes (σ : Mem) (a1 : Int64) (a3 : Int32) (r : Int32) (σ2 : Mem) (h : FX4_fewestPushes σ a1 a3 = some (r, σ2)) : Con SX 6 yX4_fewestPushes cX4_fewestPushes 6 (some .int) (fun ad => [.ref (ad 3), .long a1, .int a3]) σ (fun _ => some (.int r)) σ2 :=
  con_of (by decide +kernel) (fun _ => Nat.le_of_ble_eq_true rfl) (fun X hE => eX4_fewestPushes (out := (r, σ2)) hE σ a1 a3 h)
-- IceYard$Search pushAt
abbrev mX4_pushAt : MD := (cX4_pushAt, RX4, 2, (some .int), 1)
noncomputable def FX4_pushAt (σ : Mem) (a1 : Int32) : Option (Int32 × Mem) :=
  if a1 < 0 then
  (some ((-9 : Int32), σ))
  else
  (if (σ.1 3 8) ≤ a1 then
  (some ((-9 : Int32), σ))
  else
  (if (1500 : Int32) ≤ a1 then
  (some ((-9 : Int32), σ))
  else
  (rd a1 1500 fun j2 =>
  some ((σ.1 26 j2), σ))))
set_option maxHeartbeats 4000000 in
set_option maxRecDepth 100000 in
theorem eX4_pushAt {X : CX} {out : Int32 × Mem} (hE : Ends X SX (some (.int out.1)) out.2) (σ : Mem) (a1 : Int32) (h : FX4_pushAt σ a1 = some out) : J X SX mX4_pushAt σ 0 [(0, .ref (xad X 3)), (1, .int a1)] [] := by
  refine r_iload_n 1 dX4_pushAt_0 rfl rfl rfl ?_
  refine r_if_lt dX4_pushAt_1 rfl rfl h (fun c h => ?_) (fun c h => ?_)
  · refine r_bipush dX4_pushAt_30 rfl kb_m9 ?_
    exact r_iret rfl dX4_pushAt_32 h hE
  · refine r_iload_n 1 dX4_pushAt_4 rfl rfl rfl ?_
    refine r_aload_n 0 dX4_pushAt_5 rfl rfl rfl ?_
    refine r_getI fg_RX4_46 rfl rfl dX4_pushAt_6 rfl ?_
    refine r_icmp_ge dX4_pushAt_9 rfl rfl h (fun c h => ?_) (fun c h => ?_)
    · refine r_bipush dX4_pushAt_30 rfl kb_m9 ?_
      exact r_iret rfl dX4_pushAt_32 h hE
    · refine r_iload_n 1 dX4_pushAt_12 rfl rfl rfl ?_
      refine r_aload_n 0 dX4_pushAt_13 rfl rfl rfl ?_
      refine r_getR fg_RX4_22 rfl rfl dX4_pushAt_14 rfl ?_
      refine r_alen rfl (by decide) rfl dX4_pushAt_17 rfl ?_
      refine r_icmp_ge dX4_pushAt_18 rfl rfl h (fun c h => ?_) (fun c h => ?_)
      · refine r_bipush dX4_pushAt_30 rfl kb_m9 ?_
        exact r_iret rfl dX4_pushAt_32 h hE
      · refine r_aload_n 0 dX4_pushAt_21 rfl rfl rfl ?_
        refine r_getR fg_RX4_22 rfl rfl dX4_pushAt_22 rfl ?_
        refine r_iload_n 1 dX4_pushAt_25 rfl rfl rfl ?_
        refine r_iald rfl dX4_pushAt_26 rfl h (fun j2 h => ?_)
        refine r_goto dX4_pushAt_27 rfl ?_
        exact r_iret rfl dX4_pushAt_32 h hE
theorem coX4_pushAt (σ : Mem) (a1 : Int32) (r : Int32) (σ2 : Mem) (h : FX4_pushAt σ a1 = some (r, σ2)) : Con SX 1 yX4_pushAt cX4_pushAt 2 (some .int) (fun ad => [.ref (ad 3), .int a1]) σ (fun _ => some (.int r)) σ2 :=
  con_of (by decide +kernel) (fun _ => Nat.le_of_ble_eq_true rfl) (fun X hE => eX4_pushAt (out := (r, σ2)) hE σ a1 h)
-- IceYard fewest
abbrev mX8_fewest : MD := (cX8_fewest, RX8, 4, (some .int), 7)
noncomputable def FX8_fewest (σ : Mem) (a1 : Int32) (a2 : Int32) : Option (Int32 × Mem) :=
  bi (FX8_isGate σ a1) fun r8 σ7 =>
  if r8 = 0 then
  (some ((-1 : Int32), σ7))
  else
  (if (-1 : Int32) ≤ a2 then
  (bi (FX4_fewestPushes σ7 (σ7.2 0 9) a1) fun r10 σ9 =>
  if r10 < 0 then
  (some (r10, σ9))
  else
  (if a2 = (-1 : Int32) then
  (some (r10, σ9))
  else
  (bi (FX4_pushAt σ9 a2) fun r12 σ11 =>
  some (r12, σ11))))
  else
  (some ((-1 : Int32), σ7)))
set_option maxHeartbeats 4000000 in
set_option maxRecDepth 100000 in
theorem eX8_fewest {X : CX} {out : Int32 × Mem} (hE : Ends X SX (some (.int out.1)) out.2) (σ : Mem) (a1 : Int32) (a2 : Int32) (h : FX8_fewest σ a1 a2 = some out) : J X SX mX8_fewest σ 0 [(0, .ref (xad X 0)), (1, .int a1), (2, .int a2)] [] := by
  refine r_iload_n 1 dX8_fewest_0 rfl rfl rfl ?_
  obtain ⟨r8, σ7, hc, h⟩ := bi_of h
  refine r_callS [] [.int r8]  (coX8_isGate σ a1 r8 σ7 hc) ms_RX8_169 (by decide) rfl rfl (Nat.le_of_ble_eq_true rfl) rfl dX8_fewest_1 rfl ?_
  refine r_if_eq dX8_fewest_4 rfl rfl h (fun c h => ?_) (fun c h => ?_)
  · refine r_iconst dX8_fewest_12 rfl ki_m1 ?_
    exact r_iret rfl dX8_fewest_13 h hE
  · refine r_iload_n 2 dX8_fewest_7 rfl rfl rfl ?_
    refine r_iconst dX8_fewest_8 rfl ki_m1 ?_
    refine r_icmp_ge dX8_fewest_9 rfl rfl h (fun c h => ?_) (fun c h => ?_)
    · refine r_aload_n 0 dX8_fewest_14 rfl rfl rfl ?_
      refine r_getR fg_RX8_32 rfl rfl dX8_fewest_15 rfl ?_
      refine r_aload_n 0 dX8_fewest_18 rfl rfl rfl ?_
      refine r_getL fg_RX8_119 rfl rfl dX8_fewest_19 rfl ?_
      refine r_iload_n 1 dX8_fewest_22 rfl rfl rfl ?_
      obtain ⟨r10, σ9, hc, h⟩ := bi_of h
      refine r_callV [.long (σ7.2 0 9), .int a1] [] [.int r10]  (coX4_fewestPushes σ7 (σ7.2 0 9) a1 r10 σ9 hc) mv_RX8_172 (by decide) rfl rfl rfl rfl rfl (Nat.le_of_ble_eq_true rfl) rfl dX8_fewest_23 rfl ?_
      refine r_istoreV_n [(3, .int r10), (0, .ref (xad X 0)), (1, .int a1), (2, .int a2)] dX8_fewest_26 rfl rfl (show 3 < 4 by decide) rfl ?_
      refine r_iload_n 0 dX8_fewest_27 rfl rfl rfl ?_
      refine r_if_lt dX8_fewest_28 rfl rfl h (fun c h => ?_) (fun c h => ?_)
      · refine r_iload_n 0 dX8_fewest_36 rfl rfl rfl ?_
        refine r_goto dX8_fewest_37 rfl ?_
        exact r_iret rfl dX8_fewest_48 h hE
      · refine r_iload_n 3 dX8_fewest_31 rfl rfl rfl ?_
        refine r_iconst dX8_fewest_32 rfl ki_m1 ?_
        refine r_icmp_ne dX8_fewest_33 rfl rfl h (fun c h => ?_) (fun c h => ?_)
        · refine r_aload_n 1 dX8_fewest_40 rfl rfl rfl ?_
          refine r_getR fg_RX8_32 rfl rfl dX8_fewest_41 rfl ?_
          refine r_iload_n 3 dX8_fewest_44 rfl rfl rfl ?_
          obtain ⟨r12, σ11, hc, h⟩ := bi_of h
          refine r_callV [.int a2] [] [.int r12]  (coX4_pushAt σ9 a2 r12 σ11 hc) mv_RX8_175 (by decide) rfl rfl rfl rfl rfl (Nat.le_of_ble_eq_true rfl) rfl dX8_fewest_45 rfl ?_
          exact r_iret rfl dX8_fewest_48 h hE
        · refine r_iload_n 0 dX8_fewest_36 rfl rfl rfl ?_
          refine r_goto dX8_fewest_37 rfl ?_
          exact r_iret rfl dX8_fewest_48 h hE
    · refine r_iconst dX8_fewest_12 rfl ki_m1 ?_
      exact r_iret rfl dX8_fewest_13 h hE
theorem coX8_fewest (σ : Mem) (a1 : Int32) (a2 : Int32) (r : Int32) (σ2 : Mem) (h : FX8_fewest σ a1 a2 = some (r, σ2)) : Con SX 7 yX8_fewest cX8_fewest 4 (some .int) (fun ad => [.ref (ad 0), .int a1, .int a2]) σ (fun _ => some (.int r)) σ2 :=
  con_of (by decide +kernel) (fun _ => Nat.le_of_ble_eq_true rfl) (fun X hE => eX8_fewest (out := (r, σ2)) hE σ a1 a2 h)
-- IceYard$Game winningPush
abbrev mX0_winningPush (dd : Nat) : MD := (cX0_winningPush, RX0, 8, (some .int), dd + 1)
noncomputable def BX0_winningPush_33 (rc : Mem → Int64 → Int32 → Int32 → Option (Int32 × Mem)) (rl18 : Mem → Int64 → Int32 → Int32 → Int32 → Option (Int32 × Mem)) (rl33 : Mem → Int64 → Int32 → Int32 → Int32 → Int32 → Option (Int32 × Mem)) (σ : Mem) (x1 : Int64) (x3 : Int32) (x4 : Int32) (x5 : Int32) (x6 : Int32) : Option (Int32 × Mem) :=
  if (4 : Int32) ≤ x6 then
  (nm (x5 + (1 : Int32)) fun x_15 =>
  rl18 σ x1 x3 x4 x_15)
  else
  (bi (FX6_goes σ x1 x5 x6) fun r17 σ16 =>
  if r17 = 0 then
  (nm (x6 + (1 : Int32)) fun x_28 =>
  rl33 σ16 x1 x3 x4 x5 x_28)
  else
  (nm (σ16.1 2 9) fun x_18 =>
  if x_18 = x3 then
  (bi (FX8_pushNumber σ16 x5 x6) fun r20 σ19 =>
  some (r20, σ19))
  else
  (if 0 ≤ x_18 then
  (nm (x6 + (1 : Int32)) fun x_21 =>
  rl33 σ16 x1 x3 x4 x5 x_21)
  else
  (if x4 ≤ (1 : Int32) then
  (nm (x6 + (1 : Int32)) fun x_22 =>
  rl33 σ16 x1 x3 x4 x5 x_22)
  else
  (bi (rc σ16 (σ16.2 2 6) x3 (x4 - (1 : Int32))) fun r24 σ23 =>
  if r24 = 0 then
  (nm (x6 + (1 : Int32)) fun x_25 =>
  rl33 σ23 x1 x3 x4 x5 x_25)
  else
  (bi (FX8_pushNumber σ23 x5 x6) fun r27 σ26 =>
  some (r27, σ26)))))))
set_option maxHeartbeats 4000000 in
set_option maxRecDepth 100000 in
theorem jX0_winningPush_33 {X : CX} {out : Int32 × Mem} (rc : Mem → Int64 → Int32 → Int32 → Option (Int32 × Mem)) {dd : Nat} (hdd : 4 ≤ dd) (hrc : ∀ (σ : Mem) (a1 : Int64) (a3 : Int32) (a4 : Int32) (r : Int32) (σ2 : Mem), rc σ a1 a3 a4 = some (r, σ2) → Con SX dd yX0_winsWhateverComes cX0_winsWhateverComes 9 (some .boolean) (fun ad => [.ref (ad 4), .long a1, .int a3, .int a4]) σ (fun _ => some (.int r)) σ2) (hE : Ends X SX (some (.int out.1)) out.2) (rl18 : Mem → Int64 → Int32 → Int32 → Int32 → Option (Int32 × Mem)) (hr18 : ∀ (σ : Mem) (x1 : Int64) (x3 : Int32) (x4 : Int32) (x5 : Int32), rl18 σ x1 x3 x4 x5 = some out → J X SX (mX0_winningPush dd) σ 18 [(0, .ref (xad X 4)), (1, .long x1), (3, .int x3), (4, .int x4), (5, .int x5)] []) (rl33 : Mem → Int64 → Int32 → Int32 → Int32 → Int32 → Option (Int32 × Mem)) (hr33 : ∀ (σ : Mem) (x1 : Int64) (x3 : Int32) (x4 : Int32) (x5 : Int32) (x6 : Int32), rl33 σ x1 x3 x4 x5 x6 = some out → J X SX (mX0_winningPush dd) σ 33 [(0, .ref (xad X 4)), (1, .long x1), (3, .int x3), (4, .int x4), (5, .int x5), (6, .int x6)] []) (σ : Mem) (x1 : Int64) (x3 : Int32) (x4 : Int32) (x5 : Int32) (x6 : Int32) (h : BX0_winningPush_33 rc rl18 rl33 σ x1 x3 x4 x5 x6 = some out) : J X SX (mX0_winningPush dd) σ 33 [(0, .ref (xad X 4)), (1, .long x1), (3, .int x3), (4, .int x4), (5, .int x5), (6, .int x6)] [] := by
  refine r_iload 5 dX0_winningPush_33 rfl rfl ?_
  refine r_iconst dX0_winningPush_35 rfl ki_4 ?_
  refine r_icmp_ge dX0_winningPush_36 rfl rfl h (fun c h => ?_) (fun c h => ?_)
  · refine r_iinc 4 (fun x_15 => [(5, .int x_15), (0, .ref (xad X 4)), (1, .long x1), (3, .int x3), (4, .int x4), (6, .int x6)]) dX0_winningPush_116 rfl rfl ki_1 (show 5 < 8 by decide) (fun _ => rfl) h (fun x_15 h => ?_)
    refine r_goto dX0_winningPush_119 rfl ?_
    refine r_sub [1, 2, 3, 4, 0] rfl ?_
    exact hr18 σ x1 x3 x4 x_15 h
  · refine r_aload_n 0 dX0_winningPush_39 rfl rfl rfl ?_
    refine r_getR fg_RX0_19 rfl rfl dX0_winningPush_40 rfl ?_
    refine r_lload_n 1 dX0_winningPush_43 rfl rfl rfl ?_
    refine r_iload 4 dX0_winningPush_44 rfl rfl ?_
    refine r_iload 5 dX0_winningPush_46 rfl rfl ?_
    obtain ⟨r17, σ16, hc, h⟩ := bi_of h
    refine r_callV [.long x1, .int x5, .int x6] [] [.int r17]  (coX6_goes σ x1 x5 x6 r17 σ16 hc) mv_RX0_32 (Nat.lt_succ_of_le (Nat.le_trans (by decide) hdd)) rfl rfl rfl rfl rfl (Nat.le_of_ble_eq_true rfl) rfl dX0_winningPush_48 rfl ?_
    refine r_if_ne dX0_winningPush_51 rfl rfl h (fun c h => ?_) (fun c h => ?_)
    · refine r_aload_n 0 dX0_winningPush_57 rfl rfl rfl ?_
      refine r_getR fg_RX0_19 rfl rfl dX0_winningPush_58 rfl ?_
      refine r_getI fg_RX0_38 rfl rfl dX0_winningPush_61 rfl ?_
      refine r_istore (fun x_18 => [(7, .int x_18), (0, .ref (xad X 4)), (1, .long x1), (3, .int x3), (4, .int x4), (5, .int x5), (6, .int x6)]) dX0_winningPush_64 rfl (show 7 < 8 by decide) (fun _ => rfl) h (fun x_18 h => ?_)
      refine r_iload 0 dX0_winningPush_66 rfl rfl ?_
      refine r_iload_n 3 dX0_winningPush_68 rfl rfl rfl ?_
      refine r_icmp_eq dX0_winningPush_69 rfl rfl h (fun c h => ?_) (fun c h => ?_)
      · refine r_iload 5 dX0_winningPush_102 rfl rfl ?_
        refine r_iload 6 dX0_winningPush_104 rfl rfl ?_
        obtain ⟨r20, σ19, hc, h⟩ := bi_of h
        refine r_callN [] [.int r20]  (coX8_pushNumber σ16 x5 x6 r20 σ19 hc) mn_RX0_48 (Nat.lt_succ_of_le (Nat.le_trans (by decide) hdd)) rfl rfl (Nat.le_of_ble_eq_true rfl) rfl dX0_winningPush_106 rfl ?_
        exact r_iret rfl dX0_winningPush_109 h hE
      · refine r_iload 0 dX0_winningPush_72 rfl rfl ?_
        refine r_if_ge dX0_winningPush_74 rfl rfl h (fun c h => ?_) (fun c h => ?_)
        · refine r_iinc 6 (fun x_21 => [(6, .int x_21), (7, .int x_18), (0, .ref (xad X 4)), (1, .long x1), (3, .int x3), (4, .int x4), (5, .int x5)]) dX0_winningPush_110 rfl rfl ki_1 (show 6 < 8 by decide) (fun _ => rfl) h (fun x_21 h => ?_)
          refine r_goto dX0_winningPush_113 rfl ?_
          refine r_sub [2, 3, 4, 5, 6, 0] rfl ?_
          exact hr33 σ16 x1 x3 x4 x5 x_21 h
        · refine r_iload 4 dX0_winningPush_77 rfl rfl ?_
          refine r_iconst dX0_winningPush_79 rfl ki_1 ?_
          refine r_icmp_le dX0_winningPush_80 rfl rfl h (fun c h => ?_) (fun c h => ?_)
          · refine r_iinc 6 (fun x_22 => [(6, .int x_22), (7, .int x_18), (0, .ref (xad X 4)), (1, .long x1), (3, .int x3), (4, .int x4), (5, .int x5)]) dX0_winningPush_110 rfl rfl ki_1 (show 6 < 8 by decide) (fun _ => rfl) h (fun x_22 h => ?_)
            refine r_goto dX0_winningPush_113 rfl ?_
            refine r_sub [2, 3, 4, 5, 6, 0] rfl ?_
            exact hr33 σ16 x1 x3 x4 x5 x_22 h
          · refine r_aload_n 1 dX0_winningPush_83 rfl rfl rfl ?_
            refine r_aload_n 1 dX0_winningPush_84 rfl rfl rfl ?_
            refine r_getR fg_RX0_19 rfl rfl dX0_winningPush_85 rfl ?_
            refine r_getL fg_RX0_41 rfl rfl dX0_winningPush_88 rfl ?_
            refine r_iload_n 3 dX0_winningPush_91 rfl rfl rfl ?_
            refine r_iload 4 dX0_winningPush_92 rfl rfl ?_
            refine r_iconst dX0_winningPush_94 rfl ki_1 ?_
            refine r_isub dX0_winningPush_95 rfl ?_
            obtain ⟨r24, σ23, hc, h⟩ := bi_of h
            refine r_callV [.long (σ16.2 2 6), .int x3, .int (x4 - (1 : Int32))] [] [.int r24]  (hrc σ16 (σ16.2 2 6) x3 (x4 - (1 : Int32)) r24 σ23 hc) mv_RX0_45 (Nat.lt_succ_self dd) rfl rfl rfl rfl rfl (Nat.le_of_ble_eq_true rfl) rfl dX0_winningPush_96 rfl ?_
            refine r_if_eq dX0_winningPush_99 rfl rfl h (fun c h => ?_) (fun c h => ?_)
            · refine r_iinc 6 (fun x_25 => [(6, .int x_25), (7, .int x_18), (0, .ref (xad X 4)), (1, .long x1), (3, .int x3), (4, .int x4), (5, .int x5)]) dX0_winningPush_110 rfl rfl ki_1 (show 6 < 8 by decide) (fun _ => rfl) h (fun x_25 h => ?_)
              refine r_goto dX0_winningPush_113 rfl ?_
              refine r_sub [2, 3, 4, 5, 6, 0] rfl ?_
              exact hr33 σ23 x1 x3 x4 x5 x_25 h
            · refine r_iload 5 dX0_winningPush_102 rfl rfl ?_
              refine r_iload 6 dX0_winningPush_104 rfl rfl ?_
              obtain ⟨r27, σ26, hc, h⟩ := bi_of h
              refine r_callN [] [.int r27]  (coX8_pushNumber σ23 x5 x6 r27 σ26 hc) mn_RX0_48 (Nat.lt_succ_of_le (Nat.le_trans (by decide) hdd)) rfl rfl (Nat.le_of_ble_eq_true rfl) rfl dX0_winningPush_106 rfl ?_
              exact r_iret rfl dX0_winningPush_109 h hE
    · refine r_goto dX0_winningPush_54 rfl ?_
      refine r_iinc 5 (fun x_28 => [(6, .int x_28), (0, .ref (xad X 4)), (1, .long x1), (3, .int x3), (4, .int x4), (5, .int x5)]) dX0_winningPush_110 rfl rfl ki_1 (show 6 < 8 by decide) (fun _ => rfl) h (fun x_28 h => ?_)
      refine r_goto dX0_winningPush_113 rfl ?_
      refine r_sub [1, 2, 3, 4, 5, 0] rfl ?_
      exact hr33 σ16 x1 x3 x4 x5 x_28 h
noncomputable def FX0_winningPush_33 (rc : Mem → Int64 → Int32 → Int32 → Option (Int32 × Mem)) (rl18 : Mem → Int64 → Int32 → Int32 → Int32 → Option (Int32 × Mem)) (n : Nat) : Mem → Int64 → Int32 → Int32 → Int32 → Int32 → Option (Int32 × Mem) :=
  Nat.rec (fun _ _ _ _ _ _ => none) (fun _ ih => BX0_winningPush_33 rc rl18 ih) n
theorem lX0_winningPush_33 {X : CX} {out : Int32 × Mem} (rc : Mem → Int64 → Int32 → Int32 → Option (Int32 × Mem)) {dd : Nat} (hdd : 4 ≤ dd) (hrc : ∀ (σ : Mem) (a1 : Int64) (a3 : Int32) (a4 : Int32) (r : Int32) (σ2 : Mem), rc σ a1 a3 a4 = some (r, σ2) → Con SX dd yX0_winsWhateverComes cX0_winsWhateverComes 9 (some .boolean) (fun ad => [.ref (ad 4), .long a1, .int a3, .int a4]) σ (fun _ => some (.int r)) σ2) (hE : Ends X SX (some (.int out.1)) out.2) (rl18 : Mem → Int64 → Int32 → Int32 → Int32 → Option (Int32 × Mem)) (hr18 : ∀ (σ : Mem) (x1 : Int64) (x3 : Int32) (x4 : Int32) (x5 : Int32), rl18 σ x1 x3 x4 x5 = some out → J X SX (mX0_winningPush dd) σ 18 [(0, .ref (xad X 4)), (1, .long x1), (3, .int x3), (4, .int x4), (5, .int x5)] []) : ∀ (n : Nat) (σ : Mem) (x1 : Int64) (x3 : Int32) (x4 : Int32) (x5 : Int32) (x6 : Int32), FX0_winningPush_33 rc rl18 n σ x1 x3 x4 x5 x6 = some out → J X SX (mX0_winningPush dd) σ 33 [(0, .ref (xad X 4)), (1, .long x1), (3, .int x3), (4, .int x4), (5, .int x5), (6, .int x6)] [] := by
  intro n
  induction n with
  | zero => intro σ x1 x3 x4 x5 x6 h; exact nn h
  | succ n ih => intro σ x1 x3 x4 x5 x6 h; exact jX0_winningPush_33 rc hdd hrc hE rl18 hr18 (FX0_winningPush_33 rc rl18 n) ih σ x1 x3 x4 x5 x6 h
noncomputable def BX0_winningPush_18 (rc : Mem → Int64 → Int32 → Int32 → Option (Int32 × Mem)) (rl18 : Mem → Int64 → Int32 → Int32 → Int32 → Option (Int32 × Mem)) (σ : Mem) (x1 : Int64) (x3 : Int32) (x4 : Int32) (x5 : Int32) : Option (Int32 × Mem) :=
  if (σ.1 1 6) ≤ x5 then
  (some ((-9 : Int32), σ))
  else
  (FX0_winningPush_33 rc rl18 FU σ x1 x3 x4 x5 (0 : Int32))
set_option maxHeartbeats 4000000 in
set_option maxRecDepth 100000 in
theorem jX0_winningPush_18 {X : CX} {out : Int32 × Mem} (rc : Mem → Int64 → Int32 → Int32 → Option (Int32 × Mem)) {dd : Nat} (hdd : 4 ≤ dd) (hrc : ∀ (σ : Mem) (a1 : Int64) (a3 : Int32) (a4 : Int32) (r : Int32) (σ2 : Mem), rc σ a1 a3 a4 = some (r, σ2) → Con SX dd yX0_winsWhateverComes cX0_winsWhateverComes 9 (some .boolean) (fun ad => [.ref (ad 4), .long a1, .int a3, .int a4]) σ (fun _ => some (.int r)) σ2) (hE : Ends X SX (some (.int out.1)) out.2) (rl18 : Mem → Int64 → Int32 → Int32 → Int32 → Option (Int32 × Mem)) (hr18 : ∀ (σ : Mem) (x1 : Int64) (x3 : Int32) (x4 : Int32) (x5 : Int32), rl18 σ x1 x3 x4 x5 = some out → J X SX (mX0_winningPush dd) σ 18 [(0, .ref (xad X 4)), (1, .long x1), (3, .int x3), (4, .int x4), (5, .int x5)] []) (σ : Mem) (x1 : Int64) (x3 : Int32) (x4 : Int32) (x5 : Int32) (h : BX0_winningPush_18 rc rl18 σ x1 x3 x4 x5 = some out) : J X SX (mX0_winningPush dd) σ 18 [(0, .ref (xad X 4)), (1, .long x1), (3, .int x3), (4, .int x4), (5, .int x5)] [] := by
  refine r_iload 4 dX0_winningPush_18 rfl rfl ?_
  refine r_aload_n 0 dX0_winningPush_20 rfl rfl rfl ?_
  refine r_getR fg_RX0_15 rfl rfl dX0_winningPush_21 rfl ?_
  refine r_getI fg_RX0_27 rfl rfl dX0_winningPush_24 rfl ?_
  refine r_icmp_ge dX0_winningPush_27 rfl rfl h (fun c h => ?_) (fun c h => ?_)
  · refine r_bipush dX0_winningPush_122 rfl kb_m9 ?_
    exact r_iret rfl dX0_winningPush_124 h hE
  · refine r_iconst dX0_winningPush_30 rfl ki_0 ?_
    refine r_istoreV [(6, .int (0 : Int32)), (0, .ref (xad X 4)), (1, .long x1), (3, .int x3), (4, .int x4), (5, .int x5)] dX0_winningPush_31 rfl (show 6 < 8 by decide) rfl ?_
    refine r_sub [1, 2, 3, 4, 5, 0] rfl ?_
    exact lX0_winningPush_33 rc hdd hrc hE rl18 hr18 FU σ x1 x3 x4 x5 (0 : Int32) h
noncomputable def FX0_winningPush_18 (rc : Mem → Int64 → Int32 → Int32 → Option (Int32 × Mem)) (n : Nat) : Mem → Int64 → Int32 → Int32 → Int32 → Option (Int32 × Mem) :=
  Nat.rec (fun _ _ _ _ _ => none) (fun _ ih => BX0_winningPush_18 rc ih) n
theorem lX0_winningPush_18 {X : CX} {out : Int32 × Mem} (rc : Mem → Int64 → Int32 → Int32 → Option (Int32 × Mem)) {dd : Nat} (hdd : 4 ≤ dd) (hrc : ∀ (σ : Mem) (a1 : Int64) (a3 : Int32) (a4 : Int32) (r : Int32) (σ2 : Mem), rc σ a1 a3 a4 = some (r, σ2) → Con SX dd yX0_winsWhateverComes cX0_winsWhateverComes 9 (some .boolean) (fun ad => [.ref (ad 4), .long a1, .int a3, .int a4]) σ (fun _ => some (.int r)) σ2) (hE : Ends X SX (some (.int out.1)) out.2) : ∀ (n : Nat) (σ : Mem) (x1 : Int64) (x3 : Int32) (x4 : Int32) (x5 : Int32), FX0_winningPush_18 rc n σ x1 x3 x4 x5 = some out → J X SX (mX0_winningPush dd) σ 18 [(0, .ref (xad X 4)), (1, .long x1), (3, .int x3), (4, .int x4), (5, .int x5)] [] := by
  intro n
  induction n with
  | zero => intro σ x1 x3 x4 x5 h; exact nn h
  | succ n ih => intro σ x1 x3 x4 x5 h; exact jX0_winningPush_18 rc hdd hrc hE (FX0_winningPush_18 rc n) ih σ x1 x3 x4 x5 h
noncomputable def FX0_winningPush (rc : Mem → Int64 → Int32 → Int32 → Option (Int32 × Mem)) (σ : Mem) (a1 : Int64) (a3 : Int32) (a4 : Int32) : Option (Int32 × Mem) :=
  if a4 < (1 : Int32) then
  (some ((-9 : Int32), σ))
  else
  (if a4 ≤ (4 : Int32) then
  (FX0_winningPush_18 rc FU σ a1 a3 a4 (0 : Int32))
  else
  (some ((-9 : Int32), σ)))
set_option maxHeartbeats 4000000 in
set_option maxRecDepth 100000 in
theorem eX0_winningPush {X : CX} {out : Int32 × Mem} (rc : Mem → Int64 → Int32 → Int32 → Option (Int32 × Mem)) {dd : Nat} (hdd : 4 ≤ dd) (hrc : ∀ (σ : Mem) (a1 : Int64) (a3 : Int32) (a4 : Int32) (r : Int32) (σ2 : Mem), rc σ a1 a3 a4 = some (r, σ2) → Con SX dd yX0_winsWhateverComes cX0_winsWhateverComes 9 (some .boolean) (fun ad => [.ref (ad 4), .long a1, .int a3, .int a4]) σ (fun _ => some (.int r)) σ2) (hE : Ends X SX (some (.int out.1)) out.2) (σ : Mem) (a1 : Int64) (a3 : Int32) (a4 : Int32) (h : FX0_winningPush rc σ a1 a3 a4 = some out) : J X SX (mX0_winningPush dd) σ 0 [(0, .ref (xad X 4)), (1, .long a1), (3, .int a3), (4, .int a4)] [] := by
  refine r_iload 3 dX0_winningPush_0 rfl rfl ?_
  refine r_iconst dX0_winningPush_2 rfl ki_1 ?_
  refine r_icmp_lt dX0_winningPush_3 rfl rfl h (fun c h => ?_) (fun c h => ?_)
  · refine r_bipush dX0_winningPush_12 rfl kb_m9 ?_
    exact r_iret rfl dX0_winningPush_14 h hE
  · refine r_iload 3 dX0_winningPush_6 rfl rfl ?_
    refine r_iconst dX0_winningPush_8 rfl ki_4 ?_
    refine r_icmp_le dX0_winningPush_9 rfl rfl h (fun c h => ?_) (fun c h => ?_)
    · refine r_iconst dX0_winningPush_15 rfl ki_0 ?_
      refine r_istoreV [(5, .int (0 : Int32)), (0, .ref (xad X 4)), (1, .long a1), (3, .int a3), (4, .int a4)] dX0_winningPush_16 rfl (show 5 < 8 by decide) rfl ?_
      refine r_sub [1, 2, 3, 4, 0] rfl ?_
      exact lX0_winningPush_18 rc hdd hrc hE FU σ a1 a3 a4 (0 : Int32) h
    · refine r_bipush dX0_winningPush_12 rfl kb_m9 ?_
      exact r_iret rfl dX0_winningPush_14 h hE
theorem coX0_winningPush (rc : Mem → Int64 → Int32 → Int32 → Option (Int32 × Mem)) {dd : Nat} (hdd : 4 ≤ dd) (hrc : ∀ (σ : Mem) (a1 : Int64) (a3 : Int32) (a4 : Int32) (r : Int32) (σ2 : Mem), rc σ a1 a3 a4 = some (r, σ2) → Con SX dd yX0_winsWhateverComes cX0_winsWhateverComes 9 (some .boolean) (fun ad => [.ref (ad 4), .long a1, .int a3, .int a4]) σ (fun _ => some (.int r)) σ2) (σ : Mem) (a1 : Int64) (a3 : Int32) (a4 : Int32) (r : Int32) (σ2 : Mem) (h : FX0_winningPush rc σ a1 a3 a4 = some (r, σ2)) : Con SX (dd + 1) yX0_winningPush cX0_winningPush 8 (some .int) (fun ad => [.ref (ad 4), .long a1, .int a3, .int a4]) σ (fun _ => some (.int r)) σ2 :=
  con_of (by decide +kernel) (fun _ => Nat.le_of_ble_eq_true rfl) (fun X hE => eX0_winningPush rc hdd hrc (out := (r, σ2)) hE σ a1 a3 a4 h)
-- IceYard$Game winsWhateverComes
abbrev mX0_winsWhateverComes (dd : Nat) : MD := (cX0_winsWhateverComes, RX0, 9, (some .boolean), dd + 1)
noncomputable def BX0_winsWhateverComes_21 (rc : Mem → Int64 → Int32 → Int32 → Option (Int32 × Mem)) (rl6 : Mem → Int64 → Int32 → Int32 → Int32 → Int32 → Option (Int32 × Mem)) (rl21 : Mem → Int64 → Int32 → Int32 → Int32 → Int32 → Int32 → Option (Int32 × Mem)) (σ : Mem) (x1 : Int64) (x3 : Int32) (x4 : Int32) (x5 : Int32) (x6 : Int32) (x7 : Int32) : Option (Int32 × Mem) :=
  if (4 : Int32) ≤ x7 then
  (nm (x6 + (1 : Int32)) fun x_10 =>
  rl6 σ x1 x3 x4 x5 x_10)
  else
  (bi (FX6_goes σ x1 x6 x7) fun r12 σ11 =>
  if r12 = 0 then
  (nm (x7 + (1 : Int32)) fun x_18 =>
  rl21 σ11 x1 x3 x4 x5 x6 x_18)
  else
  (nm (σ11.1 2 9) fun x_13 =>
  if x_13 = x3 then
  (nm (x7 + (1 : Int32)) fun x_17 =>
  rl21 σ11 x1 x3 x4 (1 : Int32) x6 x_17)
  else
  (if 0 ≤ x_13 then
  (rz (0 : Int32) σ11)
  else
  (bi (rc σ11 (σ11.2 2 6) x3 (x4 - (1 : Int32))) fun r15 σ14 =>
  if 0 ≤ r15 then
  (nm (x7 + (1 : Int32)) fun x_16 =>
  rl21 σ14 x1 x3 x4 (1 : Int32) x6 x_16)
  else
  (rz (0 : Int32) σ14)))))
set_option maxHeartbeats 4000000 in
set_option maxRecDepth 100000 in
theorem jX0_winsWhateverComes_21 {X : CX} {out : Int32 × Mem} (rc : Mem → Int64 → Int32 → Int32 → Option (Int32 × Mem)) {dd : Nat} (hdd : 4 ≤ dd) (hrc : ∀ (σ : Mem) (a1 : Int64) (a3 : Int32) (a4 : Int32) (r : Int32) (σ2 : Mem), rc σ a1 a3 a4 = some (r, σ2) → Con SX dd yX0_winningPush cX0_winningPush 8 (some .int) (fun ad => [.ref (ad 4), .long a1, .int a3, .int a4]) σ (fun _ => some (.int r)) σ2) (hE : Ends X SX (some (.int out.1)) out.2) (rl6 : Mem → Int64 → Int32 → Int32 → Int32 → Int32 → Option (Int32 × Mem)) (hr6 : ∀ (σ : Mem) (x1 : Int64) (x3 : Int32) (x4 : Int32) (x5 : Int32) (x6 : Int32), rl6 σ x1 x3 x4 x5 x6 = some out → J X SX (mX0_winsWhateverComes dd) σ 6 [(0, .ref (xad X 4)), (1, .long x1), (3, .int x3), (4, .int x4), (5, .int x5), (6, .int x6)] []) (rl21 : Mem → Int64 → Int32 → Int32 → Int32 → Int32 → Int32 → Option (Int32 × Mem)) (hr21 : ∀ (σ : Mem) (x1 : Int64) (x3 : Int32) (x4 : Int32) (x5 : Int32) (x6 : Int32) (x7 : Int32), rl21 σ x1 x3 x4 x5 x6 x7 = some out → J X SX (mX0_winsWhateverComes dd) σ 21 [(0, .ref (xad X 4)), (1, .long x1), (3, .int x3), (4, .int x4), (5, .int x5), (6, .int x6), (7, .int x7)] []) (σ : Mem) (x1 : Int64) (x3 : Int32) (x4 : Int32) (x5 : Int32) (x6 : Int32) (x7 : Int32) (h : BX0_winsWhateverComes_21 rc rl6 rl21 σ x1 x3 x4 x5 x6 x7 = some out) : J X SX (mX0_winsWhateverComes dd) σ 21 [(0, .ref (xad X 4)), (1, .long x1), (3, .int x3), (4, .int x4), (5, .int x5), (6, .int x6), (7, .int x7)] [] := by
  refine r_iload 6 dX0_winsWhateverComes_21 rfl rfl ?_
  refine r_iconst dX0_winsWhateverComes_23 rfl ki_4 ?_
  refine r_icmp_ge dX0_winsWhateverComes_24 rfl rfl h (fun c h => ?_) (fun c h => ?_)
  · refine r_iinc 5 (fun x_10 => [(6, .int x_10), (0, .ref (xad X 4)), (1, .long x1), (3, .int x3), (4, .int x4), (5, .int x5), (7, .int x7)]) dX0_winsWhateverComes_98 rfl rfl ki_1 (show 6 < 9 by decide) (fun _ => rfl) h (fun x_10 h => ?_)
    refine r_goto dX0_winsWhateverComes_101 rfl ?_
    refine r_sub [1, 2, 3, 4, 5, 0] rfl ?_
    exact hr6 σ x1 x3 x4 x5 x_10 h
  · refine r_aload_n 0 dX0_winsWhateverComes_27 rfl rfl rfl ?_
    refine r_getR fg_RX0_19 rfl rfl dX0_winsWhateverComes_28 rfl ?_
    refine r_lload_n 1 dX0_winsWhateverComes_31 rfl rfl rfl ?_
    refine r_iload 5 dX0_winsWhateverComes_32 rfl rfl ?_
    refine r_iload 6 dX0_winsWhateverComes_34 rfl rfl ?_
    obtain ⟨r12, σ11, hc, h⟩ := bi_of h
    refine r_callV [.long x1, .int x6, .int x7] [] [.int r12]  (coX6_goes σ x1 x6 x7 r12 σ11 hc) mv_RX0_32 (Nat.lt_succ_of_le (Nat.le_trans (by decide) hdd)) rfl rfl rfl rfl rfl (Nat.le_of_ble_eq_true rfl) rfl dX0_winsWhateverComes_36 rfl ?_
    refine r_if_ne dX0_winsWhateverComes_39 rfl rfl h (fun c h => ?_) (fun c h => ?_)
    · refine r_iconst dX0_winsWhateverComes_45 rfl ki_1 ?_
      refine r_istoreV [(5, .int (1 : Int32)), (0, .ref (xad X 4)), (1, .long x1), (3, .int x3), (4, .int x4), (6, .int x6), (7, .int x7)] dX0_winsWhateverComes_46 rfl (show 5 < 9 by decide) rfl ?_
      refine r_aload_n 1 dX0_winsWhateverComes_48 rfl rfl rfl ?_
      refine r_getR fg_RX0_19 rfl rfl dX0_winsWhateverComes_49 rfl ?_
      refine r_getI fg_RX0_38 rfl rfl dX0_winsWhateverComes_52 rfl ?_
      refine r_istore (fun x_13 => [(8, .int x_13), (5, .int (1 : Int32)), (0, .ref (xad X 4)), (1, .long x1), (3, .int x3), (4, .int x4), (6, .int x6), (7, .int x7)]) dX0_winsWhateverComes_55 rfl (show 8 < 9 by decide) (fun _ => rfl) h (fun x_13 h => ?_)
      refine r_iload 0 dX0_winsWhateverComes_57 rfl rfl ?_
      refine r_iload_n 4 dX0_winsWhateverComes_59 rfl rfl rfl ?_
      refine r_icmp_ne dX0_winsWhateverComes_60 rfl rfl h (fun c h => ?_) (fun c h => ?_)
      · refine r_iload 0 dX0_winsWhateverComes_66 rfl rfl ?_
        refine r_if_ge dX0_winsWhateverComes_68 rfl rfl h (fun c h => ?_) (fun c h => ?_)
        · refine r_iconst dX0_winsWhateverComes_90 rfl ki_0 ?_
          exact r_zret rfl dX0_winsWhateverComes_91 h hE
        · refine r_aload_n 2 dX0_winsWhateverComes_71 rfl rfl rfl ?_
          refine r_aload_n 2 dX0_winsWhateverComes_72 rfl rfl rfl ?_
          refine r_getR fg_RX0_19 rfl rfl dX0_winsWhateverComes_73 rfl ?_
          refine r_getL fg_RX0_41 rfl rfl dX0_winsWhateverComes_76 rfl ?_
          refine r_iload_n 4 dX0_winsWhateverComes_79 rfl rfl rfl ?_
          refine r_iload 5 dX0_winsWhateverComes_80 rfl rfl ?_
          refine r_iconst dX0_winsWhateverComes_82 rfl ki_1 ?_
          refine r_isub dX0_winsWhateverComes_83 rfl ?_
          obtain ⟨r15, σ14, hc, h⟩ := bi_of h
          refine r_callV [.long (σ11.2 2 6), .int x3, .int (x4 - (1 : Int32))] [] [.int r15]  (hrc σ11 (σ11.2 2 6) x3 (x4 - (1 : Int32)) r15 σ14 hc) mv_RX0_23 (Nat.lt_succ_self dd) rfl rfl rfl rfl rfl (Nat.le_of_ble_eq_true rfl) rfl dX0_winsWhateverComes_84 rfl ?_
          refine r_if_ge dX0_winsWhateverComes_87 rfl rfl h (fun c h => ?_) (fun c h => ?_)
          · refine r_iinc 7 (fun x_16 => [(7, .int x_16), (8, .int x_13), (5, .int (1 : Int32)), (0, .ref (xad X 4)), (1, .long x1), (3, .int x3), (4, .int x4), (6, .int x6)]) dX0_winsWhateverComes_92 rfl rfl ki_1 (show 7 < 9 by decide) (fun _ => rfl) h (fun x_16 h => ?_)
            refine r_goto dX0_winsWhateverComes_95 rfl ?_
            refine r_sub [3, 4, 5, 6, 2, 7, 0] rfl ?_
            exact hr21 σ14 x1 x3 x4 (1 : Int32) x6 x_16 h
          · refine r_iconst dX0_winsWhateverComes_90 rfl ki_0 ?_
            exact r_zret rfl dX0_winsWhateverComes_91 h hE
      · refine r_goto dX0_winsWhateverComes_63 rfl ?_
        refine r_iinc 7 (fun x_17 => [(7, .int x_17), (8, .int x_13), (5, .int (1 : Int32)), (0, .ref (xad X 4)), (1, .long x1), (3, .int x3), (4, .int x4), (6, .int x6)]) dX0_winsWhateverComes_92 rfl rfl ki_1 (show 7 < 9 by decide) (fun _ => rfl) h (fun x_17 h => ?_)
        refine r_goto dX0_winsWhateverComes_95 rfl ?_
        refine r_sub [3, 4, 5, 6, 2, 7, 0] rfl ?_
        exact hr21 σ11 x1 x3 x4 (1 : Int32) x6 x_17 h
    · refine r_goto dX0_winsWhateverComes_42 rfl ?_
      refine r_iinc 6 (fun x_18 => [(7, .int x_18), (0, .ref (xad X 4)), (1, .long x1), (3, .int x3), (4, .int x4), (5, .int x5), (6, .int x6)]) dX0_winsWhateverComes_92 rfl rfl ki_1 (show 7 < 9 by decide) (fun _ => rfl) h (fun x_18 h => ?_)
      refine r_goto dX0_winsWhateverComes_95 rfl ?_
      refine r_sub [1, 2, 3, 4, 5, 6, 0] rfl ?_
      exact hr21 σ11 x1 x3 x4 x5 x6 x_18 h
noncomputable def FX0_winsWhateverComes_21 (rc : Mem → Int64 → Int32 → Int32 → Option (Int32 × Mem)) (rl6 : Mem → Int64 → Int32 → Int32 → Int32 → Int32 → Option (Int32 × Mem)) (n : Nat) : Mem → Int64 → Int32 → Int32 → Int32 → Int32 → Int32 → Option (Int32 × Mem) :=
  Nat.rec (fun _ _ _ _ _ _ _ => none) (fun _ ih => BX0_winsWhateverComes_21 rc rl6 ih) n
theorem lX0_winsWhateverComes_21 {X : CX} {out : Int32 × Mem} (rc : Mem → Int64 → Int32 → Int32 → Option (Int32 × Mem)) {dd : Nat} (hdd : 4 ≤ dd) (hrc : ∀ (σ : Mem) (a1 : Int64) (a3 : Int32) (a4 : Int32) (r : Int32) (σ2 : Mem), rc σ a1 a3 a4 = some (r, σ2) → Con SX dd yX0_winningPush cX0_winningPush 8 (some .int) (fun ad => [.ref (ad 4), .long a1, .int a3, .int a4]) σ (fun _ => some (.int r)) σ2) (hE : Ends X SX (some (.int out.1)) out.2) (rl6 : Mem → Int64 → Int32 → Int32 → Int32 → Int32 → Option (Int32 × Mem)) (hr6 : ∀ (σ : Mem) (x1 : Int64) (x3 : Int32) (x4 : Int32) (x5 : Int32) (x6 : Int32), rl6 σ x1 x3 x4 x5 x6 = some out → J X SX (mX0_winsWhateverComes dd) σ 6 [(0, .ref (xad X 4)), (1, .long x1), (3, .int x3), (4, .int x4), (5, .int x5), (6, .int x6)] []) : ∀ (n : Nat) (σ : Mem) (x1 : Int64) (x3 : Int32) (x4 : Int32) (x5 : Int32) (x6 : Int32) (x7 : Int32), FX0_winsWhateverComes_21 rc rl6 n σ x1 x3 x4 x5 x6 x7 = some out → J X SX (mX0_winsWhateverComes dd) σ 21 [(0, .ref (xad X 4)), (1, .long x1), (3, .int x3), (4, .int x4), (5, .int x5), (6, .int x6), (7, .int x7)] [] := by
  intro n
  induction n with
  | zero => intro σ x1 x3 x4 x5 x6 x7 h; exact nn h
  | succ n ih => intro σ x1 x3 x4 x5 x6 x7 h; exact jX0_winsWhateverComes_21 rc hdd hrc hE rl6 hr6 (FX0_winsWhateverComes_21 rc rl6 n) ih σ x1 x3 x4 x5 x6 x7 h
noncomputable def BX0_winsWhateverComes_6 (rc : Mem → Int64 → Int32 → Int32 → Option (Int32 × Mem)) (rl6 : Mem → Int64 → Int32 → Int32 → Int32 → Int32 → Option (Int32 × Mem)) (σ : Mem) (x1 : Int64) (x3 : Int32) (x4 : Int32) (x5 : Int32) (x6 : Int32) : Option (Int32 × Mem) :=
  if (σ.1 1 6) ≤ x6 then
  (rz x5 σ)
  else
  (FX0_winsWhateverComes_21 rc rl6 FU σ x1 x3 x4 x5 x6 (0 : Int32))
set_option maxHeartbeats 4000000 in
set_option maxRecDepth 100000 in
theorem jX0_winsWhateverComes_6 {X : CX} {out : Int32 × Mem} (rc : Mem → Int64 → Int32 → Int32 → Option (Int32 × Mem)) {dd : Nat} (hdd : 4 ≤ dd) (hrc : ∀ (σ : Mem) (a1 : Int64) (a3 : Int32) (a4 : Int32) (r : Int32) (σ2 : Mem), rc σ a1 a3 a4 = some (r, σ2) → Con SX dd yX0_winningPush cX0_winningPush 8 (some .int) (fun ad => [.ref (ad 4), .long a1, .int a3, .int a4]) σ (fun _ => some (.int r)) σ2) (hE : Ends X SX (some (.int out.1)) out.2) (rl6 : Mem → Int64 → Int32 → Int32 → Int32 → Int32 → Option (Int32 × Mem)) (hr6 : ∀ (σ : Mem) (x1 : Int64) (x3 : Int32) (x4 : Int32) (x5 : Int32) (x6 : Int32), rl6 σ x1 x3 x4 x5 x6 = some out → J X SX (mX0_winsWhateverComes dd) σ 6 [(0, .ref (xad X 4)), (1, .long x1), (3, .int x3), (4, .int x4), (5, .int x5), (6, .int x6)] []) (σ : Mem) (x1 : Int64) (x3 : Int32) (x4 : Int32) (x5 : Int32) (x6 : Int32) (h : BX0_winsWhateverComes_6 rc rl6 σ x1 x3 x4 x5 x6 = some out) : J X SX (mX0_winsWhateverComes dd) σ 6 [(0, .ref (xad X 4)), (1, .long x1), (3, .int x3), (4, .int x4), (5, .int x5), (6, .int x6)] [] := by
  refine r_iload 5 dX0_winsWhateverComes_6 rfl rfl ?_
  refine r_aload_n 0 dX0_winsWhateverComes_8 rfl rfl rfl ?_
  refine r_getR fg_RX0_15 rfl rfl dX0_winsWhateverComes_9 rfl ?_
  refine r_getI fg_RX0_27 rfl rfl dX0_winsWhateverComes_12 rfl ?_
  refine r_icmp_ge dX0_winsWhateverComes_15 rfl rfl h (fun c h => ?_) (fun c h => ?_)
  · refine r_iload 4 dX0_winsWhateverComes_104 rfl rfl ?_
    exact r_zret rfl dX0_winsWhateverComes_106 h hE
  · refine r_iconst dX0_winsWhateverComes_18 rfl ki_0 ?_
    refine r_istoreV [(7, .int (0 : Int32)), (0, .ref (xad X 4)), (1, .long x1), (3, .int x3), (4, .int x4), (5, .int x5), (6, .int x6)] dX0_winsWhateverComes_19 rfl (show 7 < 9 by decide) rfl ?_
    refine r_sub [1, 2, 3, 4, 5, 6, 0] rfl ?_
    exact lX0_winsWhateverComes_21 rc hdd hrc hE rl6 hr6 FU σ x1 x3 x4 x5 x6 (0 : Int32) h
noncomputable def FX0_winsWhateverComes_6 (rc : Mem → Int64 → Int32 → Int32 → Option (Int32 × Mem)) (n : Nat) : Mem → Int64 → Int32 → Int32 → Int32 → Int32 → Option (Int32 × Mem) :=
  Nat.rec (fun _ _ _ _ _ _ => none) (fun _ ih => BX0_winsWhateverComes_6 rc ih) n
theorem lX0_winsWhateverComes_6 {X : CX} {out : Int32 × Mem} (rc : Mem → Int64 → Int32 → Int32 → Option (Int32 × Mem)) {dd : Nat} (hdd : 4 ≤ dd) (hrc : ∀ (σ : Mem) (a1 : Int64) (a3 : Int32) (a4 : Int32) (r : Int32) (σ2 : Mem), rc σ a1 a3 a4 = some (r, σ2) → Con SX dd yX0_winningPush cX0_winningPush 8 (some .int) (fun ad => [.ref (ad 4), .long a1, .int a3, .int a4]) σ (fun _ => some (.int r)) σ2) (hE : Ends X SX (some (.int out.1)) out.2) : ∀ (n : Nat) (σ : Mem) (x1 : Int64) (x3 : Int32) (x4 : Int32) (x5 : Int32) (x6 : Int32), FX0_winsWhateverComes_6 rc n σ x1 x3 x4 x5 x6 = some out → J X SX (mX0_winsWhateverComes dd) σ 6 [(0, .ref (xad X 4)), (1, .long x1), (3, .int x3), (4, .int x4), (5, .int x5), (6, .int x6)] [] := by
  intro n
  induction n with
  | zero => intro σ x1 x3 x4 x5 x6 h; exact nn h
  | succ n ih => intro σ x1 x3 x4 x5 x6 h; exact jX0_winsWhateverComes_6 rc hdd hrc hE (FX0_winsWhateverComes_6 rc n) ih σ x1 x3 x4 x5 x6 h
noncomputable def FX0_winsWhateverComes (rc : Mem → Int64 → Int32 → Int32 → Option (Int32 × Mem)) (σ : Mem) (a1 : Int64) (a3 : Int32) (a4 : Int32) : Option (Int32 × Mem) :=
  FX0_winsWhateverComes_6 rc FU σ a1 a3 a4 (0 : Int32) (0 : Int32)
set_option maxHeartbeats 4000000 in
set_option maxRecDepth 100000 in
theorem eX0_winsWhateverComes {X : CX} {out : Int32 × Mem} (rc : Mem → Int64 → Int32 → Int32 → Option (Int32 × Mem)) {dd : Nat} (hdd : 4 ≤ dd) (hrc : ∀ (σ : Mem) (a1 : Int64) (a3 : Int32) (a4 : Int32) (r : Int32) (σ2 : Mem), rc σ a1 a3 a4 = some (r, σ2) → Con SX dd yX0_winningPush cX0_winningPush 8 (some .int) (fun ad => [.ref (ad 4), .long a1, .int a3, .int a4]) σ (fun _ => some (.int r)) σ2) (hE : Ends X SX (some (.int out.1)) out.2) (σ : Mem) (a1 : Int64) (a3 : Int32) (a4 : Int32) (h : FX0_winsWhateverComes rc σ a1 a3 a4 = some out) : J X SX (mX0_winsWhateverComes dd) σ 0 [(0, .ref (xad X 4)), (1, .long a1), (3, .int a3), (4, .int a4)] [] := by
  refine r_iconst dX0_winsWhateverComes_0 rfl ki_0 ?_
  refine r_istoreV [(5, .int (0 : Int32)), (0, .ref (xad X 4)), (1, .long a1), (3, .int a3), (4, .int a4)] dX0_winsWhateverComes_1 rfl (show 5 < 9 by decide) rfl ?_
  refine r_iconst dX0_winsWhateverComes_3 rfl ki_0 ?_
  refine r_istoreV [(6, .int (0 : Int32)), (5, .int (0 : Int32)), (0, .ref (xad X 4)), (1, .long a1), (3, .int a3), (4, .int a4)] dX0_winsWhateverComes_4 rfl (show 6 < 9 by decide) rfl ?_
  refine r_sub [2, 3, 4, 5, 1, 0] rfl ?_
  exact lX0_winsWhateverComes_6 rc hdd hrc hE FU σ a1 a3 a4 (0 : Int32) (0 : Int32) h
theorem coX0_winsWhateverComes (rc : Mem → Int64 → Int32 → Int32 → Option (Int32 × Mem)) {dd : Nat} (hdd : 4 ≤ dd) (hrc : ∀ (σ : Mem) (a1 : Int64) (a3 : Int32) (a4 : Int32) (r : Int32) (σ2 : Mem), rc σ a1 a3 a4 = some (r, σ2) → Con SX dd yX0_winningPush cX0_winningPush 8 (some .int) (fun ad => [.ref (ad 4), .long a1, .int a3, .int a4]) σ (fun _ => some (.int r)) σ2) (σ : Mem) (a1 : Int64) (a3 : Int32) (a4 : Int32) (r : Int32) (σ2 : Mem) (h : FX0_winsWhateverComes rc σ a1 a3 a4 = some (r, σ2)) : Con SX (dd + 1) yX0_winsWhateverComes cX0_winsWhateverComes 9 (some .boolean) (fun ad => [.ref (ad 4), .long a1, .int a3, .int a4]) σ (fun _ => some (.int r)) σ2 :=
  con_of (by decide +kernel) (fun _ => Nat.le_of_ble_eq_true rfl) (fun X hE => eX0_winsWhateverComes rc hdd hrc (out := (r, σ2)) hE σ a1 a3 a4 h)
noncomputable def prec {A B : Type} (a0 : A) (b0 : B) (f : B → A) (g : A → B) (d : Nat) : A × B := Nat.rec (a0, b0) (fun _ ih => (f ih.2, g ih.1)) d
theorem prec_1 {A B : Type} (a0 : A) (b0 : B) (f : B → A) (g : A → B) (n : Nat) : (prec a0 b0 f g (n + 1)).1 = f (prec a0 b0 f g n).2 := rfl
theorem prec_2 {A B : Type} (a0 : A) (b0 : B) (f : B → A) (g : A → B) (n : Nat) : (prec a0 b0 f g (n + 1)).2 = g (prec a0 b0 f g n).1 := rfl
noncomputable def FRX0_winningPush (d : Nat) : (Mem → Int64 → Int32 → Int32 → Option (Int32 × Mem)) × (Mem → Int64 → Int32 → Int32 → Option (Int32 × Mem)) :=
  prec (fun _ _ _ _ => none) (fun _ _ _ _ => none) FX0_winningPush FX0_winsWhateverComes d
theorem FRsX0_winningPush_1 (n : Nat) : (FRX0_winningPush (n + 1)).1 = FX0_winningPush (FRX0_winningPush n).2 := prec_1 _ _ _ _ n
theorem FRsX0_winningPush_2 (n : Nat) : (FRX0_winningPush (n + 1)).2 = FX0_winsWhateverComes (FRX0_winningPush n).1 := prec_2 _ _ _ _ n
theorem crX0_winningPush : ∀ d : Nat, (∀ (σ : Mem) (a1 : Int64) (a3 : Int32) (a4 : Int32) (r : Int32) (σ2 : Mem), (FRX0_winningPush d).1 σ a1 a3 a4 = some (r, σ2) → Con SX (4 + d) yX0_winningPush cX0_winningPush 8 (some .int) (fun ad => [.ref (ad 4), .long a1, .int a3, .int a4]) σ (fun _ => some (.int r)) σ2) ∧ (∀ (σ : Mem) (a1 : Int64) (a3 : Int32) (a4 : Int32) (r : Int32) (σ2 : Mem), (FRX0_winningPush d).2 σ a1 a3 a4 = some (r, σ2) → Con SX (4 + d) yX0_winsWhateverComes cX0_winsWhateverComes 9 (some .boolean) (fun ad => [.ref (ad 4), .long a1, .int a3, .int a4]) σ (fun _ => some (.int r)) σ2) := by
  intro d
  induction d with
  | zero => exact ⟨fun σ a1 a3 a4 r σ2 h => nn h, fun σ a1 a3 a4 r σ2 h => nn h⟩
  | succ n ih =>
    refine ⟨fun σ a1 a3 a4 r σ2 h => ?_, fun σ a1 a3 a4 r σ2 h => ?_⟩
    · rw [FRsX0_winningPush_1] at h
      exact coX0_winningPush (FRX0_winningPush n).2 (dd := 4 + n) (Nat.le_add_right _ _) ih.2 σ a1 a3 a4 r σ2 h
    · rw [FRsX0_winningPush_2] at h
      exact coX0_winsWhateverComes (FRX0_winningPush n).1 (dd := 4 + n) (Nat.le_add_right _ _) ih.1 σ a1 a3 a4 r σ2 h
noncomputable def FTX0_winningPush : (Mem → Int64 → Int32 → Int32 → Option (Int32 × Mem)) := (FRX0_winningPush 14).1
theorem ctX0_winningPush (σ : Mem) (a1 : Int64) (a3 : Int32) (a4 : Int32) (r : Int32) (σ2 : Mem) (h : FTX0_winningPush σ a1 a3 a4 = some (r, σ2)) : Con SX 18 yX0_winningPush cX0_winningPush 8 (some .int) (fun ad => [.ref (ad 4), .long a1, .int a3, .int a4]) σ (fun _ => some (.int r)) σ2 := (crX0_winningPush 14).1 σ a1 a3 a4 r σ2 h
noncomputable def FTX0_winsWhateverComes : (Mem → Int64 → Int32 → Int32 → Option (Int32 × Mem)) := (FRX0_winningPush 14).2
theorem ctX0_winsWhateverComes (σ : Mem) (a1 : Int64) (a3 : Int32) (a4 : Int32) (r : Int32) (σ2 : Mem) (h : FTX0_winsWhateverComes σ a1 a3 a4 = some (r, σ2)) : Con SX 18 yX0_winsWhateverComes cX0_winsWhateverComes 9 (some .boolean) (fun ad => [.ref (ad 4), .long a1, .int a3, .int a4]) σ (fun _ => some (.int r)) σ2 := (crX0_winningPush 14).2 σ a1 a3 a4 r σ2 h
-- IceYard$Game leastTurns
abbrev mX0_leastTurns : MD := (cX0_leastTurns, RX0, 5, (some .int), 19)
noncomputable def BX0_leastTurns_3 (rl3 : Mem → Int64 → Int32 → Int32 → Option (Int32 × Mem)) (σ : Mem) (x1 : Int64) (x3 : Int32) (x4 : Int32) : Option (Int32 × Mem) :=
  if (4 : Int32) < x4 then
  (some ((-9 : Int32), σ))
  else
  (bi (FTX0_winningPush σ x1 x3 x4) fun r6 σ5 =>
  nm (setI σ5 4 2 r6) fun σ7 =>
  if (σ7.1 4 2) < 0 then
  (nm (x4 + (1 : Int32)) fun x_8 =>
  rl3 σ7 x1 x3 x_8)
  else
  (some (x4, σ7)))
set_option maxHeartbeats 4000000 in
set_option maxRecDepth 100000 in
theorem jX0_leastTurns_3 {X : CX} {out : Int32 × Mem} (hE : Ends X SX (some (.int out.1)) out.2) (rl3 : Mem → Int64 → Int32 → Int32 → Option (Int32 × Mem)) (hr3 : ∀ (σ : Mem) (x1 : Int64) (x3 : Int32) (x4 : Int32), rl3 σ x1 x3 x4 = some out → J X SX mX0_leastTurns σ 3 [(0, .ref (xad X 4)), (1, .long x1), (3, .int x3), (4, .int x4)] []) (σ : Mem) (x1 : Int64) (x3 : Int32) (x4 : Int32) (h : BX0_leastTurns_3 rl3 σ x1 x3 x4 = some out) : J X SX mX0_leastTurns σ 3 [(0, .ref (xad X 4)), (1, .long x1), (3, .int x3), (4, .int x4)] [] := by
  refine r_iload 3 dX0_leastTurns_3 rfl rfl ?_
  refine r_iconst dX0_leastTurns_5 rfl ki_4 ?_
  refine r_icmp_gt dX0_leastTurns_6 rfl rfl h (fun c h => ?_) (fun c h => ?_)
  · refine r_bipush dX0_leastTurns_37 rfl kb_m9 ?_
    exact r_iret rfl dX0_leastTurns_39 h hE
  · refine r_aload_n 0 dX0_leastTurns_9 rfl rfl rfl ?_
    refine r_aload_n 0 dX0_leastTurns_10 rfl rfl rfl ?_
    refine r_lload_n 1 dX0_leastTurns_11 rfl rfl rfl ?_
    refine r_iload_n 2 dX0_leastTurns_12 rfl rfl rfl ?_
    refine r_iload 3 dX0_leastTurns_13 rfl rfl ?_
    obtain ⟨r6, σ5, hc, h⟩ := bi_of h
    refine r_callV [.long x1, .int x3, .int x4] [.ref (xad X 4)] [.int r6, .ref (xad X 4)]  (ctX0_winningPush σ x1 x3 x4 r6 σ5 hc) mv_RX0_23 (by decide) rfl rfl rfl rfl rfl (Nat.le_of_ble_eq_true rfl) rfl dX0_leastTurns_15 rfl ?_
    refine r_putI fp_RX0_9 rfl rfl dX0_leastTurns_18 rfl h (fun σ7 h => ?_)
    refine r_aload_n 0 dX0_leastTurns_21 rfl rfl rfl ?_
    refine r_getI fg_RX0_9 rfl rfl dX0_leastTurns_22 rfl ?_
    refine r_if_lt dX0_leastTurns_25 rfl rfl h (fun c h => ?_) (fun c h => ?_)
    · refine r_iinc 3 (fun x_8 => [(4, .int x_8), (0, .ref (xad X 4)), (1, .long x1), (3, .int x3)]) dX0_leastTurns_31 rfl rfl ki_1 (show 4 < 5 by decide) (fun _ => rfl) h (fun x_8 h => ?_)
      refine r_goto dX0_leastTurns_34 rfl ?_
      refine r_sub [1, 2, 3, 0] rfl ?_
      exact hr3 σ7 x1 x3 x_8 h
    · refine r_iload 3 dX0_leastTurns_28 rfl rfl ?_
      exact r_iret rfl dX0_leastTurns_30 h hE
noncomputable def FX0_leastTurns_3 (n : Nat) : Mem → Int64 → Int32 → Int32 → Option (Int32 × Mem) :=
  Nat.rec (fun _ _ _ _ => none) (fun _ ih => BX0_leastTurns_3 ih) n
theorem lX0_leastTurns_3 {X : CX} {out : Int32 × Mem} (hE : Ends X SX (some (.int out.1)) out.2) : ∀ (n : Nat) (σ : Mem) (x1 : Int64) (x3 : Int32) (x4 : Int32), FX0_leastTurns_3 n σ x1 x3 x4 = some out → J X SX mX0_leastTurns σ 3 [(0, .ref (xad X 4)), (1, .long x1), (3, .int x3), (4, .int x4)] [] := by
  intro n
  induction n with
  | zero => intro σ x1 x3 x4 h; exact nn h
  | succ n ih => intro σ x1 x3 x4 h; exact jX0_leastTurns_3 hE (FX0_leastTurns_3 n) ih σ x1 x3 x4 h
noncomputable def FX0_leastTurns (σ : Mem) (a1 : Int64) (a3 : Int32) : Option (Int32 × Mem) :=
  FX0_leastTurns_3 FU σ a1 a3 (1 : Int32)
set_option maxHeartbeats 4000000 in
set_option maxRecDepth 100000 in
theorem eX0_leastTurns {X : CX} {out : Int32 × Mem} (hE : Ends X SX (some (.int out.1)) out.2) (σ : Mem) (a1 : Int64) (a3 : Int32) (h : FX0_leastTurns σ a1 a3 = some out) : J X SX mX0_leastTurns σ 0 [(0, .ref (xad X 4)), (1, .long a1), (3, .int a3)] [] := by
  refine r_iconst dX0_leastTurns_0 rfl ki_1 ?_
  refine r_istoreV [(4, .int (1 : Int32)), (0, .ref (xad X 4)), (1, .long a1), (3, .int a3)] dX0_leastTurns_1 rfl (show 4 < 5 by decide) rfl ?_
  refine r_sub [1, 2, 3, 0] rfl ?_
  exact lX0_leastTurns_3 hE FU σ a1 a3 (1 : Int32) h
theorem coX0_leastTurns (σ : Mem) (a1 : Int64) (a3 : Int32) (r : Int32) (σ2 : Mem) (h : FX0_leastTurns σ a1 a3 = some (r, σ2)) : Con SX 19 yX0_leastTurns cX0_leastTurns 5 (some .int) (fun ad => [.ref (ad 4), .long a1, .int a3]) σ (fun _ => some (.int r)) σ2 :=
  con_of (by decide +kernel) (fun _ => Nat.le_of_ble_eq_true rfl) (fun X hE => eX0_leastTurns (out := (r, σ2)) hE σ a1 a3 h)
-- IceYard first
abbrev mX8_first : MD := (cX8_first, RX8, 2, (some .int), 20)
noncomputable def FX8_first (σ : Mem) (a1 : Int32) : Option (Int32 × Mem) :=
  bi (FX8_isGate σ a1) fun r6 σ5 =>
  if r6 = 0 then
  (some ((-1 : Int32), σ5))
  else
  (bi (FX0_leastTurns σ5 (σ5.2 0 9) a1) fun r8 σ7 =>
  some ((σ7.1 4 2), σ7))
set_option maxHeartbeats 4000000 in
set_option maxRecDepth 100000 in
theorem eX8_first {X : CX} {out : Int32 × Mem} (hE : Ends X SX (some (.int out.1)) out.2) (σ : Mem) (a1 : Int32) (h : FX8_first σ a1 = some out) : J X SX mX8_first σ 0 [(0, .ref (xad X 0)), (1, .int a1)] [] := by
  refine r_iload_n 1 dX8_first_0 rfl rfl rfl ?_
  obtain ⟨r6, σ5, hc, h⟩ := bi_of h
  refine r_callS [] [.int r6]  (coX8_isGate σ a1 r6 σ5 hc) ms_RX8_169 (by decide) rfl rfl (Nat.le_of_ble_eq_true rfl) rfl dX8_first_1 rfl ?_
  refine r_if_ne dX8_first_4 rfl rfl h (fun c h => ?_) (fun c h => ?_)
  · refine r_aload_n 0 dX8_first_9 rfl rfl rfl ?_
    refine r_getR fg_RX8_39 rfl rfl dX8_first_10 rfl ?_
    refine r_aload_n 0 dX8_first_13 rfl rfl rfl ?_
    refine r_getL fg_RX8_119 rfl rfl dX8_first_14 rfl ?_
    refine r_iload_n 1 dX8_first_17 rfl rfl rfl ?_
    obtain ⟨r8, σ7, hc, h⟩ := bi_of h
    refine r_callV [.long (σ5.2 0 9), .int a1] [] [.int r8]  (coX0_leastTurns σ5 (σ5.2 0 9) a1 r8 σ7 hc) mv_RX8_178 (by decide) rfl rfl rfl rfl rfl (Nat.le_of_ble_eq_true rfl) rfl dX8_first_18 rfl ?_
    refine r_pop dX8_first_21 rfl rfl ?_
    refine r_aload_n 0 dX8_first_22 rfl rfl rfl ?_
    refine r_getR fg_RX8_39 rfl rfl dX8_first_23 rfl ?_
    refine r_getI fg_RX8_181 rfl rfl dX8_first_26 rfl ?_
    exact r_iret rfl dX8_first_29 h hE
  · refine r_iconst dX8_first_7 rfl ki_m1 ?_
    exact r_iret rfl dX8_first_8 h hE
theorem coX8_first (σ : Mem) (a1 : Int32) (r : Int32) (σ2 : Mem) (h : FX8_first σ a1 = some (r, σ2)) : Con SX 20 yX8_first cX8_first 2 (some .int) (fun ad => [.ref (ad 0), .int a1]) σ (fun _ => some (.int r)) σ2 :=
  con_of (by decide +kernel) (fun _ => Nat.le_of_ble_eq_true rfl) (fun X hE => eX8_first (out := (r, σ2)) hE σ a1 h)
-- IceYard keep
abbrev mX8_keep : MD := (cX8_keep, RX8, 2, (some .int), 2)
noncomputable def FX8_keep (σ : Mem) (a1 : Int32) : Option (Int32 × Mem) :=
  if a1 < 0 then
  (some ((-1 : Int32), σ))
  else
  (if a1 < (3 : Int32) then
  (bi (FX1_cells σ) fun r5 σ4 =>
  if r5 = 0 then
  (some ((-3 : Int32), σ4))
  else
  (stL σ4 17 3 a1 (σ4.2 0 9) fun σ6 =>
  some ((1 : Int32), σ6)))
  else
  (some ((-1 : Int32), σ)))
set_option maxHeartbeats 4000000 in
set_option maxRecDepth 100000 in
theorem eX8_keep {X : CX} {out : Int32 × Mem} (hE : Ends X SX (some (.int out.1)) out.2) (σ : Mem) (a1 : Int32) (h : FX8_keep σ a1 = some out) : J X SX mX8_keep σ 0 [(0, .ref (xad X 0)), (1, .int a1)] [] := by
  refine r_iload_n 1 dX8_keep_0 rfl rfl rfl ?_
  refine r_if_lt dX8_keep_1 rfl rfl h (fun c h => ?_) (fun c h => ?_)
  · refine r_iconst dX8_keep_13 rfl ki_m1 ?_
    exact r_iret rfl dX8_keep_14 h hE
  · refine r_iload_n 1 dX8_keep_4 rfl rfl rfl ?_
    refine r_aload_n 0 dX8_keep_5 rfl rfl rfl ?_
    refine r_getR fg_RX8_70 rfl rfl dX8_keep_6 rfl ?_
    refine r_alen rfl (by decide) rfl dX8_keep_9 rfl ?_
    refine r_icmp_lt dX8_keep_10 rfl rfl h (fun c h => ?_) (fun c h => ?_)
    · refine r_aload_n 0 dX8_keep_15 rfl rfl rfl ?_
      refine r_getR fg_RX8_14 rfl rfl dX8_keep_16 rfl ?_
      obtain ⟨r5, σ4, hc, h⟩ := bi_of h
      refine r_callV [] [] [.int r5]  (coX1_cells σ r5 σ4 hc) mv_RX8_132 (by decide) rfl rfl rfl rfl rfl (Nat.le_of_ble_eq_true rfl) rfl dX8_keep_19 rfl ?_
      refine r_if_ne dX8_keep_22 rfl rfl h (fun c h => ?_) (fun c h => ?_)
      · refine r_aload_n 0 dX8_keep_28 rfl rfl rfl ?_
        refine r_getR fg_RX8_70 rfl rfl dX8_keep_29 rfl ?_
        refine r_iload_n 1 dX8_keep_32 rfl rfl rfl ?_
        refine r_aload_n 0 dX8_keep_33 rfl rfl rfl ?_
        refine r_getL fg_RX8_119 rfl rfl dX8_keep_34 rfl ?_
        refine r_last rfl dX8_keep_37 rfl h (fun σ6 h => ?_)
        refine r_iconst dX8_keep_38 rfl ki_1 ?_
        exact r_iret rfl dX8_keep_39 h hE
      · refine r_bipush dX8_keep_25 rfl kb_m3 ?_
        exact r_iret rfl dX8_keep_27 h hE
    · refine r_iconst dX8_keep_13 rfl ki_m1 ?_
      exact r_iret rfl dX8_keep_14 h hE
theorem coX8_keep (σ : Mem) (a1 : Int32) (r : Int32) (σ2 : Mem) (h : FX8_keep σ a1 = some (r, σ2)) : Con SX 2 yX8_keep cX8_keep 2 (some .int) (fun ad => [.ref (ad 0), .int a1]) σ (fun _ => some (.int r)) σ2 :=
  con_of (by decide +kernel) (fun _ => Nat.le_of_ble_eq_true rfl) (fun X hE => eX8_keep (out := (r, σ2)) hE σ a1 h)
-- IceYard leaveTrace
abbrev mX8_leaveTrace : MD := (cX8_leaveTrace, RX8, 2, none, 1)
noncomputable def FX8_leaveTrace (σ : Mem) (a1 : Int32) : Option (Mem) :=
  nm (setI σ 0 11 (((31 : Int32) * (σ.1 0 11)) + a1)) fun σ2 =>
  some σ2
set_option maxHeartbeats 4000000 in
set_option maxRecDepth 100000 in
theorem eX8_leaveTrace {X : CX} {out : Mem} (hE : Ends X SX none out) (σ : Mem) (a1 : Int32) (h : FX8_leaveTrace σ a1 = some out) : J X SX mX8_leaveTrace σ 0 [(0, .ref (xad X 0)), (1, .int a1)] [] := by
  refine r_aload_n 0 dX8_leaveTrace_0 rfl rfl rfl ?_
  refine r_bipush dX8_leaveTrace_1 rfl kb_31 ?_
  refine r_aload_n 0 dX8_leaveTrace_3 rfl rfl rfl ?_
  refine r_getI fg_RX8_255 rfl rfl dX8_leaveTrace_4 rfl ?_
  refine r_imul dX8_leaveTrace_7 rfl ?_
  refine r_iload_n 1 dX8_leaveTrace_8 rfl rfl rfl ?_
  refine r_iadd dX8_leaveTrace_9 rfl ?_
  refine r_putI fp_RX8_255 rfl rfl dX8_leaveTrace_10 rfl h (fun σ2 h => ?_)
  exact r_vret rfl dX8_leaveTrace_13 h hE
theorem coX8_leaveTrace (σ : Mem) (a1 : Int32) (σ2 : Mem) (h : FX8_leaveTrace σ a1 = some σ2) : Con SX 1 yX8_leaveTrace cX8_leaveTrace 2 none (fun ad => [.ref (ad 0), .int a1]) σ (fun _ => none) σ2 :=
  con_of (by decide +kernel) (fun _ => Nat.le_of_ble_eq_true rfl) (fun X hE => eX8_leaveTrace (out := σ2) hE σ a1 h)
-- IceYard kick
abbrev mX8_kick : MD := (cX8_kick, RX8, 3, (some .int), 3)
noncomputable def FX8_kick_41 (σ : Mem) (x1 : Int32) (x2 : Int32) (s0 : Int32) : Option (Int32 × Mem) :=
  bv (FX8_leaveTrace σ s0) fun σ6 =>
  if x2 = 0 then
  (some (x1, σ6))
  else
  (some ((60 : Int32), σ6))
set_option maxHeartbeats 4000000 in
set_option maxRecDepth 100000 in
theorem jX8_kick_41 {X : CX} {out : Int32 × Mem} (hE : Ends X SX (some (.int out.1)) out.2) (σ : Mem) (x1 : Int32) (x2 : Int32) (s0 : Int32) (h : FX8_kick_41 σ x1 x2 s0 = some out) : J X SX mX8_kick σ 41 [(1, .int x1), (2, .int x2)] [.int s0, .ref (xad X 0)] := by
  obtain ⟨σ6, hc, h⟩ := bv_of h
  refine r_callV [.int s0] [] []  (coX8_leaveTrace σ s0 σ6 hc) mv_RX8_248 (by decide) rfl rfl rfl rfl rfl (Nat.le_of_ble_eq_true rfl) rfl dX8_kick_41 rfl ?_
  refine r_iload_n 1 dX8_kick_44 rfl rfl rfl ?_
  refine r_if_eq dX8_kick_45 rfl rfl h (fun c h => ?_) (fun c h => ?_)
  · refine r_iload_n 0 dX8_kick_53 rfl rfl rfl ?_
    exact r_iret rfl dX8_kick_54 h hE
  · refine r_bipush dX8_kick_48 rfl kb_60 ?_
    refine r_goto dX8_kick_50 rfl ?_
    exact r_iret rfl dX8_kick_54 h hE
noncomputable def FX8_kick_30 (σ : Mem) (x1 : Int32) (s0 : Int32) : Option (Int32 × Mem) :=
  if s0 = 0 then
  (FX8_kick_41 σ x1 s0 (4 : Int32))
  else
  (FX8_kick_41 σ x1 s0 (5 : Int32))
set_option maxHeartbeats 4000000 in
set_option maxRecDepth 100000 in
theorem jX8_kick_30 {X : CX} {out : Int32 × Mem} (hE : Ends X SX (some (.int out.1)) out.2) (σ : Mem) (x1 : Int32) (s0 : Int32) (h : FX8_kick_30 σ x1 s0 = some out) : J X SX mX8_kick σ 30 [(0, .ref (xad X 0)), (1, .int x1)] [.int s0] := by
  refine r_istoreV_n [(2, .int s0), (0, .ref (xad X 0)), (1, .int x1)] dX8_kick_30 rfl rfl (show 2 < 3 by decide) rfl ?_
  refine r_aload_n 1 dX8_kick_31 rfl rfl rfl ?_
  refine r_iload_n 0 dX8_kick_32 rfl rfl rfl ?_
  refine r_if_eq dX8_kick_33 rfl rfl h (fun c h => ?_) (fun c h => ?_)
  · refine r_iconst dX8_kick_40 rfl ki_4 ?_
    refine r_sub [2, 0] rfl ?_
    exact jX8_kick_41 hE σ x1 s0 (4 : Int32) h
  · refine r_iconst dX8_kick_36 rfl ki_5 ?_
    refine r_goto dX8_kick_37 rfl ?_
    refine r_sub [2, 0] rfl ?_
    exact jX8_kick_41 hE σ x1 s0 (5 : Int32) h
noncomputable def FX8_kick (σ : Mem) (a1 : Int32) : Option (Int32 × Mem) :=
  bi (FX1_hasBlock σ a1) fun r8 σ7 =>
  if r8 = 0 then
  (some ((-1 : Int32), σ7))
  else
  (bi (FX1_kindOf σ7 a1) fun r10 σ9 =>
  if r10 = (2 : Int32) then
  (FX8_kick_30 σ9 a1 (1 : Int32))
  else
  (FX8_kick_30 σ9 a1 (0 : Int32)))
set_option maxHeartbeats 4000000 in
set_option maxRecDepth 100000 in
theorem eX8_kick {X : CX} {out : Int32 × Mem} (hE : Ends X SX (some (.int out.1)) out.2) (σ : Mem) (a1 : Int32) (h : FX8_kick σ a1 = some out) : J X SX mX8_kick σ 0 [(0, .ref (xad X 0)), (1, .int a1)] [] := by
  refine r_aload_n 0 dX8_kick_0 rfl rfl rfl ?_
  refine r_getR fg_RX8_14 rfl rfl dX8_kick_1 rfl ?_
  refine r_iload_n 1 dX8_kick_4 rfl rfl rfl ?_
  obtain ⟨r8, σ7, hc, h⟩ := bi_of h
  refine r_callV [.int a1] [] [.int r8]  (coX1_hasBlock σ a1 r8 σ7 hc) mv_RX8_144 (by decide) rfl rfl rfl rfl rfl (Nat.le_of_ble_eq_true rfl) rfl dX8_kick_5 rfl ?_
  refine r_if_ne dX8_kick_8 rfl rfl h (fun c h => ?_) (fun c h => ?_)
  · refine r_aload_n 0 dX8_kick_13 rfl rfl rfl ?_
    refine r_getR fg_RX8_14 rfl rfl dX8_kick_14 rfl ?_
    refine r_iload_n 1 dX8_kick_17 rfl rfl rfl ?_
    obtain ⟨r10, σ9, hc, h⟩ := bi_of h
    refine r_callV [.int a1] [] [.int r10]  (coX1_kindOf σ7 a1 r10 σ9 hc) mv_RX8_147 (by decide) rfl rfl rfl rfl rfl (Nat.le_of_ble_eq_true rfl) rfl dX8_kick_18 rfl ?_
    refine r_iconst dX8_kick_21 rfl ki_2 ?_
    refine r_icmp_ne dX8_kick_22 rfl rfl h (fun c h => ?_) (fun c h => ?_)
    · refine r_iconst dX8_kick_29 rfl ki_0 ?_
      exact jX8_kick_30 hE σ9 a1 (0 : Int32) h
    · refine r_iconst dX8_kick_25 rfl ki_1 ?_
      refine r_goto dX8_kick_26 rfl ?_
      exact jX8_kick_30 hE σ9 a1 (1 : Int32) h
  · refine r_iconst dX8_kick_11 rfl ki_m1 ?_
    exact r_iret rfl dX8_kick_12 h hE
theorem coX8_kick (σ : Mem) (a1 : Int32) (r : Int32) (σ2 : Mem) (h : FX8_kick σ a1 = some (r, σ2)) : Con SX 3 yX8_kick cX8_kick 3 (some .int) (fun ad => [.ref (ad 0), .int a1]) σ (fun _ => some (.int r)) σ2 :=
  con_of (by decide +kernel) (fun _ => Nat.le_of_ble_eq_true rfl) (fun X hE => eX8_kick (out := (r, σ2)) hE σ a1 h)
-- IceYard$Sheet empty
abbrev mX5_empty : MD := (cX5_empty, RX5, 1, none, 1)
noncomputable def FX5_empty (o : Nat) (σ : Mem) : Option (Mem) :=
  nm (setI σ o 1 (-1 : Int32)) fun σ3 =>
  nm (setI σ3 o 2 (0 : Int32)) fun σ4 =>
  some σ4
set_option maxHeartbeats 4000000 in
set_option maxRecDepth 100000 in
theorem eX5_empty {X : CX} {out : Mem} (o : Nat) (ho : shOk o) (hE : Ends X SX none out) (σ : Mem) (h : FX5_empty o σ = some out) : J X SX mX5_empty σ 0 [(0, .ref (xad X o))] [] := by
  refine r_aload_n 0 dX5_empty_0 rfl rfl rfl ?_
  refine r_iconst dX5_empty_1 rfl ki_m1 ?_
  refine r_putI fp_RX5_15 (sx_obj ho) rfl dX5_empty_2 rfl h (fun σ3 h => ?_)
  refine r_aload_n 0 dX5_empty_5 rfl rfl rfl ?_
  refine r_iconst dX5_empty_6 rfl ki_0 ?_
  refine r_putI fp_RX5_19 (sx_obj ho) rfl dX5_empty_7 rfl h (fun σ4 h => ?_)
  exact r_vret rfl dX5_empty_10 h hE
theorem coX5_empty (o : Nat) (ho : shOk o) (σ : Mem) (σ2 : Mem) (h : FX5_empty o σ = some σ2) : Con SX 1 yX5_empty cX5_empty 1 none (fun ad => [.ref (ad o)]) σ (fun _ => none) σ2 :=
  con_of (by decide +kernel) (fun _ => Nat.le_of_ble_eq_true rfl) (fun X hE => eX5_empty o ho (out := σ2) hE σ h)
-- IceYard lose
abbrev mX8_lose : MD := (cX8_lose, RX8, 3, (some .int), 2)
noncomputable def FX8_lose (σ : Mem) (a1 : Int32) : Option (Int32 × Mem) :=
  bi (FX8_sheetAt σ a1) fun v8 σ7 =>
  sh v8 (some ((-1 : Int32), σ7)) fun o_9 =>
  bi (FX5_hasNothing o_9 σ7) fun r11 σ10 =>
  if r11 = 0 then
  (bv (FX5_empty o_9 σ10) fun σ12 =>
  some ((1 : Int32), σ12))
  else
  (some ((0 : Int32), σ10))
set_option maxHeartbeats 4000000 in
set_option maxRecDepth 100000 in
theorem eX8_lose {X : CX} {out : Int32 × Mem} (hE : Ends X SX (some (.int out.1)) out.2) (σ : Mem) (a1 : Int32) (h : FX8_lose σ a1 = some out) : J X SX mX8_lose σ 0 [(0, .ref (xad X 0)), (1, .int a1)] [] := by
  refine r_aload_n 0 dX8_lose_0 rfl rfl rfl ?_
  refine r_iload_n 1 dX8_lose_1 rfl rfl rfl ?_
  obtain ⟨v8, σ7, hc, h⟩ := bi_of h
  rcases sh_of h with ⟨hv, h⟩ | ⟨o_9, hv, ho_9, h⟩
  · rw [hv] at hc
    refine r_callV [.int a1] [] [.null]  (coX8_sheetAt σ a1 none σ7 hc) mv_RX8_77 (by decide) rfl rfl rfl rfl rfl (Nat.le_of_ble_eq_true rfl) rfl dX8_lose_2 rfl ?_
    refine r_astoreN_n [(2, .null), (0, .ref (xad X 0)), (1, .int a1)] dX8_lose_5 rfl rfl (show 2 < 3 by decide) rfl ?_
    refine r_aloadN_n 0 dX8_lose_6 rfl rfl rfl ?_
    refine r_ifnonnullN dX8_lose_7 rfl ?_
    refine r_iconst dX8_lose_10 rfl ki_m1 ?_
    exact r_iret rfl dX8_lose_11 h hE
  · rw [hv] at hc
    refine r_callV [.int a1] [] [.ref (xad X o_9)]  (coX8_sheetAt σ a1 (some o_9) σ7 hc) mv_RX8_77 (by decide) rfl rfl rfl rfl rfl (Nat.le_of_ble_eq_true rfl) rfl dX8_lose_2 rfl ?_
    refine r_astore_n [(2, .ref (xad X o_9)), (0, .ref (xad X 0)), (1, .int a1)] dX8_lose_5 rfl rfl (show 2 < 3 by decide) rfl ?_
    refine r_aload_n 0 dX8_lose_6 rfl rfl rfl ?_
    refine r_ifnonnull dX8_lose_7 rfl ?_
    refine r_aload_n 0 dX8_lose_12 rfl rfl rfl ?_
    obtain ⟨r11, σ10, hc, h⟩ := bi_of h
    refine r_callV [] [] [.int r11]  (coX5_hasNothing o_9 ho_9 σ7 r11 σ10 hc) mv_RX8_211 (by decide) (sx_obj ho_9) rfl rfl rfl rfl (Nat.le_of_ble_eq_true rfl) rfl dX8_lose_13 rfl ?_
    refine r_if_eq dX8_lose_16 rfl rfl h (fun c h => ?_) (fun c h => ?_)
    · refine r_aload_n 0 dX8_lose_21 rfl rfl rfl ?_
      obtain ⟨σ12, hc, h⟩ := bv_of h
      refine r_callV [] [] []  (coX5_empty o_9 ho_9 σ10 σ12 hc) mv_RX8_215 (by decide) (sx_obj ho_9) rfl rfl rfl rfl (Nat.le_of_ble_eq_true rfl) rfl dX8_lose_22 rfl ?_
      refine r_iconst dX8_lose_25 rfl ki_1 ?_
      exact r_iret rfl dX8_lose_26 h hE
    · refine r_iconst dX8_lose_19 rfl ki_0 ?_
      exact r_iret rfl dX8_lose_20 h hE
theorem coX8_lose (σ : Mem) (a1 : Int32) (r : Int32) (σ2 : Mem) (h : FX8_lose σ a1 = some (r, σ2)) : Con SX 2 yX8_lose cX8_lose 3 (some .int) (fun ad => [.ref (ad 0), .int a1]) σ (fun _ => some (.int r)) σ2 :=
  con_of (by decide +kernel) (fun _ => Nat.le_of_ble_eq_true rfl) (fun X hE => eX8_lose (out := (r, σ2)) hE σ a1 h)
-- IceYard many
abbrev mX8_many : MD := (cX8_many, RX8, 2, (some .int), 3)
noncomputable def FX8_many (σ : Mem) (a1 : Int32) : Option (Int32 × Mem) :=
  if a1 = (0 : Int32) then
  (some ((σ.1 1 4), σ))
  else
  (if a1 = (1 : Int32) then
  (some ((σ.1 1 5), σ))
  else
  (if a1 = (2 : Int32) then
  (some ((σ.1 1 6), σ))
  else
  (if a1 = (3 : Int32) then
  (bi (FX1_openCracks σ (σ.2 0 9)) fun r6 σ5 =>
  bi (FJ13_bitCount_95d88 σ5 r6) fun r8 σ7 =>
  some (r8, σ7))
  else
  (if a1 = (4 : Int32) then
  (some ((σ.1 0 10), σ))
  else
  (some ((-2 : Int32), σ))))))
set_option maxHeartbeats 4000000 in
set_option maxRecDepth 100000 in
theorem eX8_many {X : CX} {out : Int32 × Mem} (hE : Ends X SX (some (.int out.1)) out.2) (σ : Mem) (a1 : Int32) (h : FX8_many σ a1 = some out) : J X SX mX8_many σ 0 [(0, .ref (xad X 0)), (1, .int a1)] [] := by
  refine r_iload_n 1 dX8_many_0 rfl rfl rfl ?_
  refine cpI h (fun c h => ?_) (fun n1_0 h => ?_)
  · refine r_tableIn dX8_many_1 (by rw [c]; decide) (by rw [c]; decide) (by rw [c] <;> rfl) rfl ?_
    refine r_aload_n 0 dX8_many_36 rfl rfl rfl ?_
    refine r_getR fg_RX8_14 rfl rfl dX8_many_37 rfl ?_
    refine r_getI fg_RX8_196 rfl rfl dX8_many_40 rfl ?_
    exact r_iret rfl dX8_many_43 h hE
  · refine cpI h (fun c h => ?_) (fun n1_1 h => ?_)
    · refine r_tableIn dX8_many_1 (by rw [c]; decide) (by rw [c]; decide) (by rw [c] <;> rfl) rfl ?_
      refine r_aload_n 0 dX8_many_44 rfl rfl rfl ?_
      refine r_getR fg_RX8_14 rfl rfl dX8_many_45 rfl ?_
      refine r_getI fg_RX8_204 rfl rfl dX8_many_48 rfl ?_
      exact r_iret rfl dX8_many_51 h hE
    · refine cpI h (fun c h => ?_) (fun n1_2 h => ?_)
      · refine r_tableIn dX8_many_1 (by rw [c]; decide) (by rw [c]; decide) (by rw [c] <;> rfl) rfl ?_
        refine r_aload_n 0 dX8_many_52 rfl rfl rfl ?_
        refine r_getR fg_RX8_14 rfl rfl dX8_many_53 rfl ?_
        refine r_getI fg_RX8_106 rfl rfl dX8_many_56 rfl ?_
        exact r_iret rfl dX8_many_59 h hE
      · refine cpI h (fun c h => ?_) (fun n1_3 h => ?_)
        · refine r_tableIn dX8_many_1 (by rw [c]; decide) (by rw [c]; decide) (by rw [c] <;> rfl) rfl ?_
          refine r_aload_n 0 dX8_many_60 rfl rfl rfl ?_
          refine r_getR fg_RX8_14 rfl rfl dX8_many_61 rfl ?_
          refine r_aload_n 0 dX8_many_64 rfl rfl rfl ?_
          refine r_getL fg_RX8_119 rfl rfl dX8_many_65 rfl ?_
          obtain ⟨r6, σ5, hc, h⟩ := bi_of h
          refine r_callV [.long (σ.2 0 9)] [] [.long r6]  (coX1_openCracks σ (σ.2 0 9) r6 σ5 hc) mv_RX8_258 (by decide) rfl rfl rfl rfl rfl (Nat.le_of_ble_eq_true rfl) rfl dX8_many_68 rfl ?_
          obtain ⟨r8, σ7, hc, h⟩ := bi_of h
          refine r_callS [] [.int r8]  (coJ13_bitCount_95d88 σ5 r6 r8 σ7 hc) ms_RX8_262 (by decide) rfl rfl (Nat.le_of_ble_eq_true rfl) rfl dX8_many_71 rfl ?_
          exact r_iret rfl dX8_many_74 h hE
        · refine cpI h (fun c h => ?_) (fun n1_4 h => ?_)
          · refine r_tableIn dX8_many_1 (by rw [c]; decide) (by rw [c]; decide) (by rw [c] <;> rfl) rfl ?_
            refine r_aload_n 0 dX8_many_75 rfl rfl rfl ?_
            refine r_getI fg_RX8_123 rfl rfl dX8_many_76 rfl ?_
            exact r_iret rfl dX8_many_79 h hE
          · refine r_tableOut dX8_many_1 (by have b0 := lv_neT (a := 0) n1_0 (by decide); have b1 := lv_neT (a := 1) n1_1 (by decide); have b2 := lv_neT (a := 2) n1_2 (by decide); have b3 := lv_neT (a := 3) n1_3 (by decide); have b4 := lv_neT (a := 4) n1_4 (by decide); omega) rfl ?_
            refine r_bipush dX8_many_80 rfl kb_m2 ?_
            exact r_iret rfl dX8_many_82 h hE
theorem coX8_many (σ : Mem) (a1 : Int32) (r : Int32) (σ2 : Mem) (h : FX8_many σ a1 = some (r, σ2)) : Con SX 3 yX8_many cX8_many 2 (some .int) (fun ad => [.ref (ad 0), .int a1]) σ (fun _ => some (.int r)) σ2 :=
  con_of (by decide +kernel) (fun _ => Nat.le_of_ble_eq_true rfl) (fun X hE => eX8_many (out := (r, σ2)) hE σ a1 h)
-- IceYard whereIs
abbrev mX8_whereIs : MD := (cX8_whereIs, RX8, 4, (some .int), 2)
noncomputable def FX8_whereIs (σ : Mem) (a0 : Int64) (a2 : Int32) : Option (Int32 × Mem) :=
  bi (FX8_placeOf σ a0 a2) fun r4 σ3 =>
  if (36 : Int32) ≤ r4 then
  (if r4 = (36 : Int32) then
  (some ((-6 : Int32), σ3))
  else
  (some (((-20 : Int32) - (r4 - (37 : Int32))), σ3)))
  else
  (some (r4, σ3))
set_option maxHeartbeats 4000000 in
set_option maxRecDepth 100000 in
theorem eX8_whereIs {X : CX} {out : Int32 × Mem} (hE : Ends X SX (some (.int out.1)) out.2) (σ : Mem) (a0 : Int64) (a2 : Int32) (h : FX8_whereIs σ a0 a2 = some out) : J X SX mX8_whereIs σ 0 [(0, .long a0), (2, .int a2)] [] := by
  refine r_lload_n 0 dX8_whereIs_0 rfl rfl rfl ?_
  refine r_iload_n 1 dX8_whereIs_1 rfl rfl rfl ?_
  obtain ⟨r4, σ3, hc, h⟩ := bi_of h
  refine r_callS [] [.int r4]  (coX8_placeOf σ a0 a2 r4 σ3 hc) ms_RX8_136 (by decide) rfl rfl (Nat.le_of_ble_eq_true rfl) rfl dX8_whereIs_2 rfl ?_
  refine r_istoreV_n [(3, .int r4), (0, .long a0), (2, .int a2)] dX8_whereIs_5 rfl rfl (show 3 < 4 by decide) rfl ?_
  refine r_iload_n 0 dX8_whereIs_6 rfl rfl rfl ?_
  refine r_bipush dX8_whereIs_7 rfl kb_36 ?_
  refine r_icmp_ge dX8_whereIs_9 rfl rfl h (fun c h => ?_) (fun c h => ?_)
  · refine r_iload_n 0 dX8_whereIs_14 rfl rfl rfl ?_
    refine r_bipush dX8_whereIs_15 rfl kb_36 ?_
    refine r_icmp_ne dX8_whereIs_17 rfl rfl h (fun c h => ?_) (fun c h => ?_)
    · refine r_bipush dX8_whereIs_25 rfl kb_m20 ?_
      refine r_iload_n 0 dX8_whereIs_27 rfl rfl rfl ?_
      refine r_bipush dX8_whereIs_28 rfl kb_37 ?_
      refine r_isub dX8_whereIs_30 rfl ?_
      refine r_isub dX8_whereIs_31 rfl ?_
      exact r_iret rfl dX8_whereIs_32 h hE
    · refine r_bipush dX8_whereIs_20 rfl kb_m6 ?_
      refine r_goto dX8_whereIs_22 rfl ?_
      exact r_iret rfl dX8_whereIs_32 h hE
  · refine r_iload_n 0 dX8_whereIs_12 rfl rfl rfl ?_
    exact r_iret rfl dX8_whereIs_13 h hE
theorem coX8_whereIs (σ : Mem) (a0 : Int64) (a2 : Int32) (r : Int32) (σ2 : Mem) (h : FX8_whereIs σ a0 a2 = some (r, σ2)) : Con SX 2 yX8_whereIs cX8_whereIs 4 (some .int) (fun ad => [.long a0, .int a2]) σ (fun _ => some (.int r)) σ2 :=
  con_of (by decide +kernel) (fun _ => Nat.le_of_ble_eq_true rfl) (fun X hE => eX8_whereIs (out := (r, σ2)) hE σ a0 a2 h)
-- IceYard ofBlock
abbrev mX8_ofBlock : MD := (cX8_ofBlock, RX8, 3, (some .int), 3)
noncomputable def FX8_ofBlock (σ : Mem) (a1 : Int32) (a2 : Int32) : Option (Int32 × Mem) :=
  bi (FX1_hasBlock σ a1) fun r8 σ7 =>
  if r8 = 0 then
  (some ((-1 : Int32), σ7))
  else
  (if a2 = 0 then
  (bi (FX1_kindOf σ7 a1) fun r12 σ11 =>
  some (r12, σ11))
  else
  (if a2 = (1 : Int32) then
  (bi (FX8_whereIs σ7 (σ7.2 0 9) a1) fun r10 σ9 =>
  some (r10, σ9))
  else
  (some ((-2 : Int32), σ7))))
set_option maxHeartbeats 4000000 in
set_option maxRecDepth 100000 in
theorem eX8_ofBlock {X : CX} {out : Int32 × Mem} (hE : Ends X SX (some (.int out.1)) out.2) (σ : Mem) (a1 : Int32) (a2 : Int32) (h : FX8_ofBlock σ a1 a2 = some out) : J X SX mX8_ofBlock σ 0 [(0, .ref (xad X 0)), (1, .int a1), (2, .int a2)] [] := by
  refine r_aload_n 0 dX8_ofBlock_0 rfl rfl rfl ?_
  refine r_getR fg_RX8_14 rfl rfl dX8_ofBlock_1 rfl ?_
  refine r_iload_n 1 dX8_ofBlock_4 rfl rfl rfl ?_
  obtain ⟨r8, σ7, hc, h⟩ := bi_of h
  refine r_callV [.int a1] [] [.int r8]  (coX1_hasBlock σ a1 r8 σ7 hc) mv_RX8_144 (by decide) rfl rfl rfl rfl rfl (Nat.le_of_ble_eq_true rfl) rfl dX8_ofBlock_5 rfl ?_
  refine r_if_ne dX8_ofBlock_8 rfl rfl h (fun c h => ?_) (fun c h => ?_)
  · refine r_iload_n 2 dX8_ofBlock_13 rfl rfl rfl ?_
    refine r_if_ne dX8_ofBlock_14 rfl rfl h (fun c h => ?_) (fun c h => ?_)
    · refine r_iload_n 2 dX8_ofBlock_26 rfl rfl rfl ?_
      refine r_iconst dX8_ofBlock_27 rfl ki_1 ?_
      refine r_icmp_ne dX8_ofBlock_28 rfl rfl h (fun c h => ?_) (fun c h => ?_)
      · refine r_bipush dX8_ofBlock_42 rfl kb_m2 ?_
        exact r_iret rfl dX8_ofBlock_44 h hE
      · refine r_aload_n 0 dX8_ofBlock_31 rfl rfl rfl ?_
        refine r_getL fg_RX8_119 rfl rfl dX8_ofBlock_32 rfl ?_
        refine r_iload_n 1 dX8_ofBlock_35 rfl rfl rfl ?_
        obtain ⟨r10, σ9, hc, h⟩ := bi_of h
        refine r_callS [] [.int r10]  (coX8_whereIs σ7 (σ7.2 0 9) a1 r10 σ9 hc) ms_RX8_150 (by decide) rfl rfl (Nat.le_of_ble_eq_true rfl) rfl dX8_ofBlock_36 rfl ?_
        refine r_goto dX8_ofBlock_39 rfl ?_
        exact r_iret rfl dX8_ofBlock_44 h hE
    · refine r_aload_n 0 dX8_ofBlock_17 rfl rfl rfl ?_
      refine r_getR fg_RX8_14 rfl rfl dX8_ofBlock_18 rfl ?_
      refine r_iload_n 1 dX8_ofBlock_21 rfl rfl rfl ?_
      obtain ⟨r12, σ11, hc, h⟩ := bi_of h
      refine r_callV [.int a1] [] [.int r12]  (coX1_kindOf σ7 a1 r12 σ11 hc) mv_RX8_147 (by decide) rfl rfl rfl rfl rfl (Nat.le_of_ble_eq_true rfl) rfl dX8_ofBlock_22 rfl ?_
      exact r_iret rfl dX8_ofBlock_25 h hE
  · refine r_iconst dX8_ofBlock_11 rfl ki_m1 ?_
    exact r_iret rfl dX8_ofBlock_12 h hE
theorem coX8_ofBlock (σ : Mem) (a1 : Int32) (a2 : Int32) (r : Int32) (σ2 : Mem) (h : FX8_ofBlock σ a1 a2 = some (r, σ2)) : Con SX 3 yX8_ofBlock cX8_ofBlock 3 (some .int) (fun ad => [.ref (ad 0), .int a1, .int a2]) σ (fun _ => some (.int r)) σ2 :=
  con_of (by decide +kernel) (fun _ => Nat.le_of_ble_eq_true rfl) (fun X hE => eX8_ofBlock (out := (r, σ2)) hE σ a1 a2 h)
-- IceYard refusalOfPush
abbrev mX8_refusalOfPush : MD := (cX8_refusalOfPush, RX8, 3, (some .int), 5)
noncomputable def FX8_refusalOfPush (σ : Mem) (a1 : Int32) (a2 : Int32) : Option (Int32 × Mem) :=
  bi (FX1_hasBlock σ a1) fun r6 σ5 =>
  if r6 = 0 then
  (some ((-1 : Int32), σ5))
  else
  (if a2 < 0 then
  (some ((-2 : Int32), σ5))
  else
  (if a2 < (4 : Int32) then
  (bi (FX6_goes σ5 (σ5.2 0 9) a1 a2) fun r8 σ7 =>
  if r8 = 0 then
  (some ((-3 : Int32), σ7))
  else
  (some ((0 : Int32), σ7)))
  else
  (some ((-2 : Int32), σ5))))
set_option maxHeartbeats 4000000 in
set_option maxRecDepth 100000 in
theorem eX8_refusalOfPush {X : CX} {out : Int32 × Mem} (hE : Ends X SX (some (.int out.1)) out.2) (σ : Mem) (a1 : Int32) (a2 : Int32) (h : FX8_refusalOfPush σ a1 a2 = some out) : J X SX mX8_refusalOfPush σ 0 [(0, .ref (xad X 0)), (1, .int a1), (2, .int a2)] [] := by
  refine r_aload_n 0 dX8_refusalOfPush_0 rfl rfl rfl ?_
  refine r_getR fg_RX8_14 rfl rfl dX8_refusalOfPush_1 rfl ?_
  refine r_iload_n 1 dX8_refusalOfPush_4 rfl rfl rfl ?_
  obtain ⟨r6, σ5, hc, h⟩ := bi_of h
  refine r_callV [.int a1] [] [.int r6]  (coX1_hasBlock σ a1 r6 σ5 hc) mv_RX8_144 (by decide) rfl rfl rfl rfl rfl (Nat.le_of_ble_eq_true rfl) rfl dX8_refusalOfPush_5 rfl ?_
  refine r_if_ne dX8_refusalOfPush_8 rfl rfl h (fun c h => ?_) (fun c h => ?_)
  · refine r_iload_n 2 dX8_refusalOfPush_13 rfl rfl rfl ?_
    refine r_if_lt dX8_refusalOfPush_14 rfl rfl h (fun c h => ?_) (fun c h => ?_)
    · refine r_bipush dX8_refusalOfPush_22 rfl kb_m2 ?_
      exact r_iret rfl dX8_refusalOfPush_24 h hE
    · refine r_iload_n 2 dX8_refusalOfPush_17 rfl rfl rfl ?_
      refine r_iconst dX8_refusalOfPush_18 rfl ki_4 ?_
      refine r_icmp_lt dX8_refusalOfPush_19 rfl rfl h (fun c h => ?_) (fun c h => ?_)
      · refine r_aload_n 0 dX8_refusalOfPush_25 rfl rfl rfl ?_
        refine r_getR fg_RX8_23 rfl rfl dX8_refusalOfPush_26 rfl ?_
        refine r_aload_n 0 dX8_refusalOfPush_29 rfl rfl rfl ?_
        refine r_getL fg_RX8_119 rfl rfl dX8_refusalOfPush_30 rfl ?_
        refine r_iload_n 1 dX8_refusalOfPush_33 rfl rfl rfl ?_
        refine r_iload_n 2 dX8_refusalOfPush_34 rfl rfl rfl ?_
        obtain ⟨r8, σ7, hc, h⟩ := bi_of h
        refine r_callV [.long (σ5.2 0 9), .int a1, .int a2] [] [.int r8]  (coX6_goes σ5 (σ5.2 0 9) a1 a2 r8 σ7 hc) mv_RX8_165 (by decide) rfl rfl rfl rfl rfl (Nat.le_of_ble_eq_true rfl) rfl dX8_refusalOfPush_35 rfl ?_
        refine r_if_eq dX8_refusalOfPush_38 rfl rfl h (fun c h => ?_) (fun c h => ?_)
        · refine r_bipush dX8_refusalOfPush_45 rfl kb_m3 ?_
          exact r_iret rfl dX8_refusalOfPush_47 h hE
        · refine r_iconst dX8_refusalOfPush_41 rfl ki_0 ?_
          refine r_goto dX8_refusalOfPush_42 rfl ?_
          exact r_iret rfl dX8_refusalOfPush_47 h hE
      · refine r_bipush dX8_refusalOfPush_22 rfl kb_m2 ?_
        exact r_iret rfl dX8_refusalOfPush_24 h hE
  · refine r_iconst dX8_refusalOfPush_11 rfl ki_m1 ?_
    exact r_iret rfl dX8_refusalOfPush_12 h hE
theorem coX8_refusalOfPush (σ : Mem) (a1 : Int32) (a2 : Int32) (r : Int32) (σ2 : Mem) (h : FX8_refusalOfPush σ a1 a2 = some (r, σ2)) : Con SX 5 yX8_refusalOfPush cX8_refusalOfPush 3 (some .int) (fun ad => [.ref (ad 0), .int a1, .int a2]) σ (fun _ => some (.int r)) σ2 :=
  con_of (by decide +kernel) (fun _ => Nat.le_of_ble_eq_true rfl) (fun X hE => eX8_refusalOfPush (out := (r, σ2)) hE σ a1 a2 h)
-- IceYard push
abbrev mX8_push : MD := (cX8_push, RX8, 4, (some .int), 6)
noncomputable def FX8_push (σ : Mem) (a1 : Int32) (a2 : Int32) : Option (Int32 × Mem) :=
  bi (FX8_refusalOfPush σ a1 a2) fun r9 σ8 =>
  if r9 = 0 then
  (if (σ8.1 0 10) < 0 then
  (some ((-4 : Int32), σ8))
  else
  (if (σ8.1 0 10) < (200 : Int32) then
  (stL σ8 16 200 (σ8.1 0 10) (σ8.2 0 9) fun σ10 =>
  nm (setI σ10 0 10 ((σ10.1 0 10) + (1 : Int32))) fun σ11 =>
  nm (setL σ11 0 9 (σ11.2 2 6)) fun σ12 =>
  bi (FX8_whereIs σ12 (σ12.2 0 9) a1) fun r14 σ13 =>
  some (r14, σ13))
  else
  (some ((-4 : Int32), σ8))))
  else
  (some (r9, σ8))
set_option maxHeartbeats 4000000 in
set_option maxRecDepth 100000 in
theorem eX8_push {X : CX} {out : Int32 × Mem} (hE : Ends X SX (some (.int out.1)) out.2) (σ : Mem) (a1 : Int32) (a2 : Int32) (h : FX8_push σ a1 a2 = some out) : J X SX mX8_push σ 0 [(0, .ref (xad X 0)), (1, .int a1), (2, .int a2)] [] := by
  refine r_aload_n 0 dX8_push_0 rfl rfl rfl ?_
  refine r_iload_n 1 dX8_push_1 rfl rfl rfl ?_
  refine r_iload_n 2 dX8_push_2 rfl rfl rfl ?_
  obtain ⟨r9, σ8, hc, h⟩ := bi_of h
  refine r_callV [.int a1, .int a2] [] [.int r9]  (coX8_refusalOfPush σ a1 a2 r9 σ8 hc) mv_RX8_153 (by decide) rfl rfl rfl rfl rfl (Nat.le_of_ble_eq_true rfl) rfl dX8_push_3 rfl ?_
  refine r_istoreV_n [(3, .int r9), (0, .ref (xad X 0)), (1, .int a1), (2, .int a2)] dX8_push_6 rfl rfl (show 3 < 4 by decide) rfl ?_
  refine r_iload_n 0 dX8_push_7 rfl rfl rfl ?_
  refine r_if_eq dX8_push_8 rfl rfl h (fun c h => ?_) (fun c h => ?_)
  · refine r_aload_n 1 dX8_push_13 rfl rfl rfl ?_
    refine r_getI fg_RX8_123 rfl rfl dX8_push_14 rfl ?_
    refine r_if_lt dX8_push_17 rfl rfl h (fun c h => ?_) (fun c h => ?_)
    · refine r_bipush dX8_push_30 rfl kb_m4 ?_
      exact r_iret rfl dX8_push_32 h hE
    · refine r_aload_n 1 dX8_push_20 rfl rfl rfl ?_
      refine r_getI fg_RX8_123 rfl rfl dX8_push_21 rfl ?_
      refine r_sipush dX8_push_24 rfl ks_200 ?_
      refine r_icmp_lt dX8_push_27 rfl rfl h (fun c h => ?_) (fun c h => ?_)
      · refine r_aload_n 1 dX8_push_33 rfl rfl rfl ?_
        refine r_getR fg_RX8_64 rfl rfl dX8_push_34 rfl ?_
        refine r_aload_n 1 dX8_push_37 rfl rfl rfl ?_
        refine r_getI fg_RX8_123 rfl rfl dX8_push_38 rfl ?_
        refine r_aload_n 1 dX8_push_41 rfl rfl rfl ?_
        refine r_getL fg_RX8_119 rfl rfl dX8_push_42 rfl ?_
        refine r_last rfl dX8_push_45 rfl h (fun σ10 h => ?_)
        refine r_aload_n 1 dX8_push_46 rfl rfl rfl ?_
        refine r_dup dX8_push_47 rfl rfl ?_
        refine r_getI fg_RX8_123 rfl rfl dX8_push_48 rfl ?_
        refine r_iconst dX8_push_51 rfl ki_1 ?_
        refine r_iadd dX8_push_52 rfl ?_
        refine r_putI fp_RX8_123 rfl rfl dX8_push_53 rfl h (fun σ11 h => ?_)
        refine r_aload_n 1 dX8_push_56 rfl rfl rfl ?_
        refine r_aload_n 1 dX8_push_57 rfl rfl rfl ?_
        refine r_getR fg_RX8_23 rfl rfl dX8_push_58 rfl ?_
        refine r_getL fg_RX8_157 rfl rfl dX8_push_61 rfl ?_
        refine r_putL fp_RX8_119 rfl rfl dX8_push_64 rfl h (fun σ12 h => ?_)
        refine r_aload_n 1 dX8_push_67 rfl rfl rfl ?_
        refine r_getL fg_RX8_119 rfl rfl dX8_push_68 rfl ?_
        refine r_iload_n 2 dX8_push_71 rfl rfl rfl ?_
        obtain ⟨r14, σ13, hc, h⟩ := bi_of h
        refine r_callS [] [.int r14]  (coX8_whereIs σ12 (σ12.2 0 9) a1 r14 σ13 hc) ms_RX8_150 (by decide) rfl rfl (Nat.le_of_ble_eq_true rfl) rfl dX8_push_72 rfl ?_
        exact r_iret rfl dX8_push_75 h hE
      · refine r_bipush dX8_push_30 rfl kb_m4 ?_
        exact r_iret rfl dX8_push_32 h hE
  · refine r_iload_n 0 dX8_push_11 rfl rfl rfl ?_
    exact r_iret rfl dX8_push_12 h hE
theorem coX8_push (σ : Mem) (a1 : Int32) (a2 : Int32) (r : Int32) (σ2 : Mem) (h : FX8_push σ a1 a2 = some (r, σ2)) : Con SX 6 yX8_push cX8_push 4 (some .int) (fun ad => [.ref (ad 0), .int a1, .int a2]) σ (fun _ => some (.int r)) σ2 :=
  con_of (by decide +kernel) (fun _ => Nat.le_of_ble_eq_true rfl) (fun X hE => eX8_push (out := (r, σ2)) hE σ a1 a2 h)

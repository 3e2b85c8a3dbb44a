-- IceYard$Search note
abbrev mX4_note : MD := (cX4_note, RX4, 6, (some .boolean), 2)
noncomputable def FX4_note (σ : Mem) (a1 : Int64) (a3 : Int32) (a4 : Int32) : Option (Int32 × Mem) :=
  bi (FX4_slotOf σ a1) fun r10 σ9 =>
  if r10 < 0 then
  (rz (0 : Int32) σ9)
  else
  (if r10 < (4096 : Int32) then
  (rd r10 4096 fun j11 =>
  if (σ9.1 27 j11) = 0 then
  (if (σ9.1 3 7) < 0 then
  (rz (0 : Int32) σ9)
  else
  (if (σ9.1 3 7) < (1500 : Int32) then
  (stL σ9 23 1500 (σ9.1 3 7) a1 fun σ12 =>
  stI σ12 24 1500 (σ12.1 3 7) a3 fun σ13 =>
  stI σ13 25 1500 (σ13.1 3 7) a4 fun σ14 =>
  nm (setI σ14 3 7 ((σ14.1 3 7) + (1 : Int32))) fun σ15 =>
  stI σ15 27 4096 r10 (σ15.1 3 7) fun σ16 =>
  rz (1 : Int32) σ16)
  else
  (rz (0 : Int32) σ9)))
  else
  (rz (1 : Int32) σ9))
  else
  (rz (0 : Int32) σ9))
set_option maxHeartbeats 4000000 in
set_option maxRecDepth 100000 in
theorem eX4_note {X : CX} {out : Int32 × Mem} (hE : Ends X SX (some (.int out.1)) out.2) (σ : Mem) (a1 : Int64) (a3 : Int32) (a4 : Int32) (h : FX4_note σ a1 a3 a4 = some out) : J X SX mX4_note σ 0 [(0, .ref (xad X 3)), (1, .long a1), (3, .int a3), (4, .int a4)] [] := by
  refine r_aload_n 0 dX4_note_0 rfl rfl rfl ?_
  refine r_lload_n 1 dX4_note_1 rfl rfl rfl ?_
  obtain ⟨r10, σ9, hc, h⟩ := bi_of h
  refine r_callV [.long a1] [] [.int r10]  (coX4_slotOf σ a1 r10 σ9 hc) mv_RX4_81 (by decide) rfl rfl rfl rfl rfl (Nat.le_of_ble_eq_true rfl) rfl dX4_note_2 rfl ?_
  refine r_istoreV [(5, .int r10), (0, .ref (xad X 3)), (1, .long a1), (3, .int a3), (4, .int a4)] dX4_note_5 rfl (show 5 < 6 by decide) rfl ?_
  refine r_iload 0 dX4_note_7 rfl rfl ?_
  refine r_if_lt dX4_note_9 rfl rfl h (fun c h => ?_) (fun c h => ?_)
  · refine r_iconst dX4_note_20 rfl ki_0 ?_
    exact r_zret rfl dX4_note_21 h hE
  · refine r_iload 0 dX4_note_12 rfl rfl ?_
    refine r_sipush dX4_note_14 rfl ks_4096 ?_
    refine r_icmp_lt dX4_note_17 rfl rfl h (fun c h => ?_) (fun c h => ?_)
    · refine r_aload_n 1 dX4_note_22 rfl rfl rfl ?_
      refine r_getR fg_RX4_25 rfl rfl dX4_note_23 rfl ?_
      refine r_iload 0 dX4_note_26 rfl rfl ?_
      refine r_iald rfl dX4_note_28 rfl h (fun j11 h => ?_)
      refine r_if_eq dX4_note_29 rfl rfl h (fun c h => ?_) (fun c h => ?_)
      · refine r_aload_n 1 dX4_note_34 rfl rfl rfl ?_
        refine r_getI fg_RX4_42 rfl rfl dX4_note_35 rfl ?_
        refine r_if_lt dX4_note_38 rfl rfl h (fun c h => ?_) (fun c h => ?_)
        · refine r_iconst dX4_note_51 rfl ki_0 ?_
          exact r_zret rfl dX4_note_52 h hE
        · refine r_aload_n 1 dX4_note_41 rfl rfl rfl ?_
          refine r_getI fg_RX4_42 rfl rfl dX4_note_42 rfl ?_
          refine r_sipush dX4_note_45 rfl ks_1500 ?_
          refine r_icmp_lt dX4_note_48 rfl rfl h (fun c h => ?_) (fun c h => ?_)
          · refine r_aload_n 1 dX4_note_53 rfl rfl rfl ?_
            refine r_getR fg_RX4_11 rfl rfl dX4_note_54 rfl ?_
            refine r_aload_n 1 dX4_note_57 rfl rfl rfl ?_
            refine r_getI fg_RX4_42 rfl rfl dX4_note_58 rfl ?_
            refine r_lload_n 2 dX4_note_61 rfl rfl rfl ?_
            refine r_last rfl dX4_note_62 rfl h (fun σ12 h => ?_)
            refine r_aload_n 1 dX4_note_63 rfl rfl rfl ?_
            refine r_getR fg_RX4_15 rfl rfl dX4_note_64 rfl ?_
            refine r_aload_n 1 dX4_note_67 rfl rfl rfl ?_
            refine r_getI fg_RX4_42 rfl rfl dX4_note_68 rfl ?_
            refine r_iload_n 3 dX4_note_71 rfl rfl rfl ?_
            refine r_iast rfl dX4_note_72 rfl h (fun σ13 h => ?_)
            refine r_aload_n 1 dX4_note_73 rfl rfl rfl ?_
            refine r_getR fg_RX4_19 rfl rfl dX4_note_74 rfl ?_
            refine r_aload_n 1 dX4_note_77 rfl rfl rfl ?_
            refine r_getI fg_RX4_42 rfl rfl dX4_note_78 rfl ?_
            refine r_iload 4 dX4_note_81 rfl rfl ?_
            refine r_iast rfl dX4_note_83 rfl h (fun σ14 h => ?_)
            refine r_aload_n 1 dX4_note_84 rfl rfl rfl ?_
            refine r_dup dX4_note_85 rfl rfl ?_
            refine r_getI fg_RX4_42 rfl rfl dX4_note_86 rfl ?_
            refine r_iconst dX4_note_89 rfl ki_1 ?_
            refine r_iadd dX4_note_90 rfl ?_
            refine r_putI fp_RX4_42 rfl rfl dX4_note_91 rfl h (fun σ15 h => ?_)
            refine r_aload_n 1 dX4_note_94 rfl rfl rfl ?_
            refine r_getR fg_RX4_25 rfl rfl dX4_note_95 rfl ?_
            refine r_iload 0 dX4_note_98 rfl rfl ?_
            refine r_aload_n 1 dX4_note_100 rfl rfl rfl ?_
            refine r_getI fg_RX4_42 rfl rfl dX4_note_101 rfl ?_
            refine r_iast rfl dX4_note_104 rfl h (fun σ16 h => ?_)
            refine r_iconst dX4_note_105 rfl ki_1 ?_
            exact r_zret rfl dX4_note_106 h hE
          · refine r_iconst dX4_note_51 rfl ki_0 ?_
            exact r_zret rfl dX4_note_52 h hE
      · refine r_iconst dX4_note_32 rfl ki_1 ?_
        exact r_zret rfl dX4_note_33 h hE
    · refine r_iconst dX4_note_20 rfl ki_0 ?_
      exact r_zret rfl dX4_note_21 h hE
theorem coX4_note (σ : Mem) (a1 : Int64) (a3 : Int32) (a4 : Int32) (r : Int32) (σ2 : Mem) (h : FX4_note σ a1 a3 a4 = some (r, σ2)) : Con SX 2 yX4_note cX4_note 6 (some .boolean) (fun ad => [.ref (ad 3), .long a1, .int a3, .int a4]) σ (fun _ => some (.int r)) σ2 :=
  con_of (by decide +kernel) (fun _ => Nat.le_of_ble_eq_true rfl) (fun X hE => eX4_note (out := (r, σ2)) hE σ a1 a3 a4 h)
-- IceYard$Search writeRow
abbrev mX4_writeRow : MD := (cX4_writeRow, RX4, 7, none, 1)
noncomputable def BX4_writeRow_68 (rl68 : Mem → Int32 → Int32 → Int32 → Int32 → Option (Mem)) (σ : Mem) (x3 : Int32) (x4 : Int32) (x5 : Int32) (x6 : Int32) : Option (Mem) :=
  if (1500 : Int32) ≤ x6 then
  (some σ)
  else
  (if x4 < 0 then
  (some σ)
  else
  (if (1500 : Int32) ≤ x4 then
  (some σ)
  else
  (stI σ 26 1500 x4 x5 fun σ16 =>
  nm (x4 + (-1 : Int32)) fun x_17 =>
  if x3 ≤ 0 then
  (nm (x6 + (1 : Int32)) fun x_18 =>
  rl68 σ16 x3 x_17 x5 x_18)
  else
  (if (1500 : Int32) ≤ x3 then
  (nm (x6 + (1 : Int32)) fun x_19 =>
  rl68 σ16 x3 x_17 x5 x_19)
  else
  (rd x3 1500 fun j20 =>
  nm (σ16.1 25 j20) fun x_21 =>
  rd x3 1500 fun j22 =>
  nm (σ16.1 24 j22) fun x_23 =>
  nm (x6 + (1 : Int32)) fun x_24 =>
  rl68 σ16 x_23 x_17 x_21 x_24)))))
set_option maxHeartbeats 4000000 in
set_option maxRecDepth 100000 in
theorem jX4_writeRow_68 {X : CX} {out : Mem} (hE : Ends X SX none out) (rl68 : Mem → Int32 → Int32 → Int32 → Int32 → Option (Mem)) (hr68 : ∀ (σ : Mem) (x3 : Int32) (x4 : Int32) (x5 : Int32) (x6 : Int32), rl68 σ x3 x4 x5 x6 = some out → J X SX mX4_writeRow σ 68 [(0, .ref (xad X 3)), (3, .int x3), (4, .int x4), (5, .int x5), (6, .int x6)] []) (σ : Mem) (x3 : Int32) (x4 : Int32) (x5 : Int32) (x6 : Int32) (h : BX4_writeRow_68 rl68 σ x3 x4 x5 x6 = some out) : J X SX mX4_writeRow σ 68 [(0, .ref (xad X 3)), (3, .int x3), (4, .int x4), (5, .int x5), (6, .int x6)] [] := by
  refine r_iload 4 dX4_writeRow_68 rfl rfl ?_
  refine r_sipush dX4_writeRow_70 rfl ks_1500 ?_
  refine r_icmp_ge dX4_writeRow_73 rfl rfl h (fun c h => ?_) (fun c h => ?_)
  · exact r_vret rfl dX4_writeRow_135 h hE
  · refine r_iload 2 dX4_writeRow_76 rfl rfl ?_
    refine r_if_lt dX4_writeRow_78 rfl rfl h (fun c h => ?_) (fun c h => ?_)
    · exact r_vret rfl dX4_writeRow_135 h hE
    · refine r_iload 2 dX4_writeRow_81 rfl rfl ?_
      refine r_aload_n 0 dX4_writeRow_83 rfl rfl rfl ?_
      refine r_getR fg_RX4_22 rfl rfl dX4_writeRow_84 rfl ?_
      refine r_alen rfl (by decide) rfl dX4_writeRow_87 rfl ?_
      refine r_icmp_ge dX4_writeRow_88 rfl rfl h (fun c h => ?_) (fun c h => ?_)
      · exact r_vret rfl dX4_writeRow_135 h hE
      · refine r_aload_n 0 dX4_writeRow_91 rfl rfl rfl ?_
        refine r_getR fg_RX4_22 rfl rfl dX4_writeRow_92 rfl ?_
        refine r_iload 2 dX4_writeRow_95 rfl rfl ?_
        refine r_iload 3 dX4_writeRow_97 rfl rfl ?_
        refine r_iast rfl dX4_writeRow_99 rfl h (fun σ16 h => ?_)
        refine r_iinc 2 (fun x_17 => [(4, .int x_17), (0, .ref (xad X 3)), (3, .int x3), (5, .int x5), (6, .int x6)]) dX4_writeRow_100 rfl rfl ki_m1 (show 4 < 7 by decide) (fun _ => rfl) h (fun x_17 h => ?_)
        refine r_iload_n 2 dX4_writeRow_103 rfl rfl rfl ?_
        refine r_if_le dX4_writeRow_104 rfl rfl h (fun c h => ?_) (fun c h => ?_)
        · refine r_iinc 4 (fun x_18 => [(6, .int x_18), (4, .int x_17), (0, .ref (xad X 3)), (3, .int x3), (5, .int x5)]) dX4_writeRow_129 rfl rfl ki_1 (show 6 < 7 by decide) (fun _ => rfl) h (fun x_18 h => ?_)
          refine r_goto dX4_writeRow_132 rfl ?_
          refine r_sub [2, 3, 1, 4, 0] rfl ?_
          exact hr68 σ16 x3 x_17 x5 x_18 h
        · refine r_iload_n 2 dX4_writeRow_107 rfl rfl rfl ?_
          refine r_sipush dX4_writeRow_108 rfl ks_1500 ?_
          refine r_icmp_ge dX4_writeRow_111 rfl rfl h (fun c h => ?_) (fun c h => ?_)
          · refine r_iinc 4 (fun x_19 => [(6, .int x_19), (4, .int x_17), (0, .ref (xad X 3)), (3, .int x3), (5, .int x5)]) dX4_writeRow_129 rfl rfl ki_1 (show 6 < 7 by decide) (fun _ => rfl) h (fun x_19 h => ?_)
            refine r_goto dX4_writeRow_132 rfl ?_
            refine r_sub [2, 3, 1, 4, 0] rfl ?_
            exact hr68 σ16 x3 x_17 x5 x_19 h
          · refine r_aload_n 1 dX4_writeRow_114 rfl rfl rfl ?_
            refine r_getR fg_RX4_19 rfl rfl dX4_writeRow_115 rfl ?_
            refine r_iload_n 2 dX4_writeRow_118 rfl rfl rfl ?_
            refine r_iald rfl dX4_writeRow_119 rfl h (fun j20 h => ?_)
            refine r_istore (fun x_21 => [(5, .int x_21), (4, .int x_17), (0, .ref (xad X 3)), (3, .int x3), (6, .int x6)]) dX4_writeRow_120 rfl (show 5 < 7 by decide) (fun _ => rfl) h (fun x_21 h => ?_)
            refine r_aload_n 2 dX4_writeRow_122 rfl rfl rfl ?_
            refine r_getR fg_RX4_15 rfl rfl dX4_writeRow_123 rfl ?_
            refine r_iload_n 3 dX4_writeRow_126 rfl rfl rfl ?_
            refine r_iald rfl dX4_writeRow_127 rfl h (fun j22 h => ?_)
            refine r_istore_n (fun x_23 => [(3, .int x_23), (5, .int x_21), (4, .int x_17), (0, .ref (xad X 3)), (6, .int x6)]) dX4_writeRow_128 rfl rfl (show 3 < 7 by decide) (fun _ => rfl) h (fun x_23 h => ?_)
            refine r_iinc 4 (fun x_24 => [(6, .int x_24), (3, .int x_23), (5, .int x_21), (4, .int x_17), (0, .ref (xad X 3))]) dX4_writeRow_129 rfl rfl ki_1 (show 6 < 7 by decide) (fun _ => rfl) h (fun x_24 h => ?_)
            refine r_goto dX4_writeRow_132 rfl ?_
            refine r_sub [4, 1, 3, 2, 0] rfl ?_
            exact hr68 σ16 x_23 x_17 x_21 x_24 h
noncomputable def FX4_writeRow_68 (n : Nat) : Mem → Int32 → Int32 → Int32 → Int32 → Option (Mem) :=
  Nat.rec (fun _ _ _ _ _ => none) (fun _ ih => BX4_writeRow_68 ih) n
theorem lX4_writeRow_68 {X : CX} {out : Mem} (hE : Ends X SX none out) : ∀ (n : Nat) (σ : Mem) (x3 : Int32) (x4 : Int32) (x5 : Int32) (x6 : Int32), FX4_writeRow_68 n σ x3 x4 x5 x6 = some out → J X SX mX4_writeRow σ 68 [(0, .ref (xad X 3)), (3, .int x3), (4, .int x4), (5, .int x5), (6, .int x6)] [] := by
  intro n
  induction n with
  | zero => intro σ x3 x4 x5 x6 h; exact nn h
  | succ n ih => intro σ x3 x4 x5 x6 h; exact jX4_writeRow_68 hE (FX4_writeRow_68 n) ih σ x3 x4 x5 x6 h
noncomputable def FX4_writeRow_52 (σ : Mem) (x1 : Int32) (x2 : Int32) : Option (Mem) :=
  nm ((σ.1 3 8) - (1 : Int32)) fun x_25 =>
  FX4_writeRow_68 FU σ x1 x_25 x2 (0 : Int32)
set_option maxHeartbeats 4000000 in
set_option maxRecDepth 100000 in
theorem jX4_writeRow_52 {X : CX} {out : Mem} (hE : Ends X SX none out) (σ : Mem) (x1 : Int32) (x2 : Int32) (h : FX4_writeRow_52 σ x1 x2 = some out) : J X SX mX4_writeRow σ 52 [(0, .ref (xad X 3)), (1, .int x1), (2, .int x2)] [] := by
  refine r_aload_n 0 dX4_writeRow_52 rfl rfl rfl ?_
  refine r_getI fg_RX4_46 rfl rfl dX4_writeRow_53 rfl ?_
  refine r_iconst dX4_writeRow_56 rfl ki_1 ?_
  refine r_isub dX4_writeRow_57 rfl ?_
  refine r_istore (fun x_25 => [(4, .int x_25), (0, .ref (xad X 3)), (1, .int x1), (2, .int x2)]) dX4_writeRow_58 rfl (show 4 < 7 by decide) (fun _ => rfl) h (fun x_25 h => ?_)
  refine r_iload_n 2 dX4_writeRow_60 rfl rfl rfl ?_
  refine r_istoreV_n [(3, .int x1), (4, .int x_25), (0, .ref (xad X 3)), (1, .int x1), (2, .int x2)] dX4_writeRow_61 rfl rfl (show 3 < 7 by decide) rfl ?_
  refine r_iload_n 4 dX4_writeRow_62 rfl rfl rfl ?_
  refine r_istoreV [(5, .int x2), (3, .int x1), (4, .int x_25), (0, .ref (xad X 3)), (1, .int x1), (2, .int x2)] dX4_writeRow_63 rfl (show 5 < 7 by decide) rfl ?_
  refine r_iconst dX4_writeRow_65 rfl ki_0 ?_
  refine r_istoreV [(6, .int (0 : Int32)), (5, .int x2), (3, .int x1), (4, .int x_25), (0, .ref (xad X 3)), (1, .int x1), (2, .int x2)] dX4_writeRow_66 rfl (show 6 < 7 by decide) rfl ?_
  refine r_sub [4, 2, 3, 1, 0] rfl ?_
  exact lX4_writeRow_68 hE FU σ x1 x_25 x2 (0 : Int32) h
noncomputable def BX4_writeRow_10 (rl10 : Mem → Int32 → Int32 → Int32 → Int32 → Option (Mem)) (σ : Mem) (x1 : Int32) (x2 : Int32) (x3 : Int32) (x4 : Int32) : Option (Mem) :=
  if (1500 : Int32) ≤ x4 then
  (FX4_writeRow_52 σ x1 x2)
  else
  (if x3 ≤ 0 then
  (FX4_writeRow_52 σ x1 x2)
  else
  (if (1500 : Int32) ≤ x3 then
  (FX4_writeRow_52 σ x1 x2)
  else
  (nm (setI σ 3 8 ((σ.1 3 8) + (1 : Int32))) fun σ26 =>
  rd x3 1500 fun j27 =>
  nm (σ26.1 24 j27) fun x_28 =>
  nm (x4 + (1 : Int32)) fun x_29 =>
  rl10 σ26 x1 x2 x_28 x_29)))
set_option maxHeartbeats 4000000 in
set_option maxRecDepth 100000 in
theorem jX4_writeRow_10 {X : CX} {out : Mem} (hE : Ends X SX none out) (rl10 : Mem → Int32 → Int32 → Int32 → Int32 → Option (Mem)) (hr10 : ∀ (σ : Mem) (x1 : Int32) (x2 : Int32) (x3 : Int32) (x4 : Int32), rl10 σ x1 x2 x3 x4 = some out → J X SX mX4_writeRow σ 10 [(0, .ref (xad X 3)), (1, .int x1), (2, .int x2), (3, .int x3), (4, .int x4)] []) (σ : Mem) (x1 : Int32) (x2 : Int32) (x3 : Int32) (x4 : Int32) (h : BX4_writeRow_10 rl10 σ x1 x2 x3 x4 = some out) : J X SX mX4_writeRow σ 10 [(0, .ref (xad X 3)), (1, .int x1), (2, .int x2), (3, .int x3), (4, .int x4)] [] := by
  refine r_iload 4 dX4_writeRow_10 rfl rfl ?_
  refine r_sipush dX4_writeRow_12 rfl ks_1500 ?_
  refine r_icmp_ge dX4_writeRow_15 rfl rfl h (fun c h => ?_) (fun c h => ?_)
  · refine r_sub [0, 1, 2] rfl ?_
    exact jX4_writeRow_52 hE σ x1 x2 h
  · refine r_iload_n 3 dX4_writeRow_18 rfl rfl rfl ?_
    refine r_if_le dX4_writeRow_19 rfl rfl h (fun c h => ?_) (fun c h => ?_)
    · refine r_sub [0, 1, 2] rfl ?_
      exact jX4_writeRow_52 hE σ x1 x2 h
    · refine r_iload_n 3 dX4_writeRow_22 rfl rfl rfl ?_
      refine r_sipush dX4_writeRow_23 rfl ks_1500 ?_
      refine r_icmp_ge dX4_writeRow_26 rfl rfl h (fun c h => ?_) (fun c h => ?_)
      · refine r_sub [0, 1, 2] rfl ?_
        exact jX4_writeRow_52 hE σ x1 x2 h
      · refine r_aload_n 0 dX4_writeRow_29 rfl rfl rfl ?_
        refine r_dup dX4_writeRow_30 rfl rfl ?_
        refine r_getI fg_RX4_46 rfl rfl dX4_writeRow_31 rfl ?_
        refine r_iconst dX4_writeRow_34 rfl ki_1 ?_
        refine r_iadd dX4_writeRow_35 rfl ?_
        refine r_putI fp_RX4_46 rfl rfl dX4_writeRow_36 rfl h (fun σ26 h => ?_)
        refine r_aload_n 0 dX4_writeRow_39 rfl rfl rfl ?_
        refine r_getR fg_RX4_15 rfl rfl dX4_writeRow_40 rfl ?_
        refine r_iload_n 3 dX4_writeRow_43 rfl rfl rfl ?_
        refine r_iald rfl dX4_writeRow_44 rfl h (fun j27 h => ?_)
        refine r_istore_n (fun x_28 => [(3, .int x_28), (0, .ref (xad X 3)), (1, .int x1), (2, .int x2), (4, .int x4)]) dX4_writeRow_45 rfl rfl (show 3 < 7 by decide) (fun _ => rfl) h (fun x_28 h => ?_)
        refine r_iinc 4 (fun x_29 => [(4, .int x_29), (3, .int x_28), (0, .ref (xad X 3)), (1, .int x1), (2, .int x2)]) dX4_writeRow_46 rfl rfl ki_1 (show 4 < 7 by decide) (fun _ => rfl) h (fun x_29 h => ?_)
        refine r_goto dX4_writeRow_49 rfl ?_
        refine r_sub [2, 3, 4, 1, 0] rfl ?_
        exact hr10 σ26 x1 x2 x_28 x_29 h
noncomputable def FX4_writeRow_10 (n : Nat) : Mem → Int32 → Int32 → Int32 → Int32 → Option (Mem) :=
  Nat.rec (fun _ _ _ _ _ => none) (fun _ ih => BX4_writeRow_10 ih) n
theorem lX4_writeRow_10 {X : CX} {out : Mem} (hE : Ends X SX none out) : ∀ (n : Nat) (σ : Mem) (x1 : Int32) (x2 : Int32) (x3 : Int32) (x4 : Int32), FX4_writeRow_10 n σ x1 x2 x3 x4 = some out → J X SX mX4_writeRow σ 10 [(0, .ref (xad X 3)), (1, .int x1), (2, .int x2), (3, .int x3), (4, .int x4)] [] := by
  intro n
  induction n with
  | zero => intro σ x1 x2 x3 x4 h; exact nn h
  | succ n ih => intro σ x1 x2 x3 x4 h; exact jX4_writeRow_10 hE (FX4_writeRow_10 n) ih σ x1 x2 x3 x4 h
noncomputable def FX4_writeRow (σ : Mem) (a1 : Int32) (a2 : Int32) : Option (Mem) :=
  nm (setI σ 3 8 (1 : Int32)) fun σ30 =>
  FX4_writeRow_10 FU σ30 a1 a2 a1 (0 : Int32)
set_option maxHeartbeats 4000000 in
set_option maxRecDepth 100000 in
theorem eX4_writeRow {X : CX} {out : Mem} (hE : Ends X SX none out) (σ : Mem) (a1 : Int32) (a2 : Int32) (h : FX4_writeRow σ a1 a2 = some out) : J X SX mX4_writeRow σ 0 [(0, .ref (xad X 3)), (1, .int a1), (2, .int a2)] [] := by
  refine r_aload_n 0 dX4_writeRow_0 rfl rfl rfl ?_
  refine r_iconst dX4_writeRow_1 rfl ki_1 ?_
  refine r_putI fp_RX4_46 rfl rfl dX4_writeRow_2 rfl h (fun σ30 h => ?_)
  refine r_iload_n 1 dX4_writeRow_5 rfl rfl rfl ?_
  refine r_istoreV_n [(3, .int a1), (0, .ref (xad X 3)), (1, .int a1), (2, .int a2)] dX4_writeRow_6 rfl rfl (show 3 < 7 by decide) rfl ?_
  refine r_iconst dX4_writeRow_7 rfl ki_0 ?_
  refine r_istoreV [(4, .int (0 : Int32)), (3, .int a1), (0, .ref (xad X 3)), (1, .int a1), (2, .int a2)] dX4_writeRow_8 rfl (show 4 < 7 by decide) rfl ?_
  refine r_sub [2, 3, 4, 1, 0] rfl ?_
  exact lX4_writeRow_10 hE FU σ30 a1 a2 a1 (0 : Int32) h
theorem coX4_writeRow (σ : Mem) (a1 : Int32) (a2 : Int32) (σ2 : Mem) (h : FX4_writeRow σ a1 a2 = some σ2) : Con SX 1 yX4_writeRow cX4_writeRow 7 none (fun ad => [.ref (ad 3), .int a1, .int a2]) σ (fun _ => none) σ2 :=
  con_of (by decide +kernel) (fun _ => Nat.le_of_ble_eq_true rfl) (fun X hE => eX4_writeRow (out := σ2) hE σ a1 a2 h)
-- IceYard$Slider load
abbrev mX6_load : MD := (cX6_load, RX6, 5, none, 3)
noncomputable def FX6_load_65 (σ : Mem) (x1 : Int64) : Option (Mem) :=
  bi (FX1_openCracks σ x1) fun r13 σ12 =>
  nm (setL σ12 2 4 r13) fun σ14 =>
  nm (setL σ14 2 2 x1) fun σ15 =>
  some σ15
set_option maxHeartbeats 4000000 in
set_option maxRecDepth 100000 in
theorem jX6_load_65 {X : CX} {out : Mem} (hE : Ends X SX none out) (σ : Mem) (x1 : Int64) (h : FX6_load_65 σ x1 = some out) : J X SX mX6_load σ 65 [(0, .ref (xad X 2)), (1, .long x1)] [] := by
  refine r_aload_n 0 dX6_load_65 rfl rfl rfl ?_
  refine r_aload_n 0 dX6_load_66 rfl rfl rfl ?_
  refine r_getR fg_RX6_21 rfl rfl dX6_load_67 rfl ?_
  refine r_lload_n 1 dX6_load_70 rfl rfl rfl ?_
  obtain ⟨r13, σ12, hc, h⟩ := bi_of h
  refine r_callV [.long x1] [.ref (xad X 2)] [.long r13, .ref (xad X 2)]  (coX1_openCracks σ x1 r13 σ12 hc) mv_RX6_62 (by decide) rfl rfl rfl rfl rfl (Nat.le_of_ble_eq_true rfl) rfl dX6_load_71 rfl ?_
  refine r_putL fp_RX6_66 rfl rfl dX6_load_74 rfl h (fun σ14 h => ?_)
  refine r_aload_n 0 dX6_load_77 rfl rfl rfl ?_
  refine r_lload_n 1 dX6_load_78 rfl rfl rfl ?_
  refine r_putL fp_RX6_17 rfl rfl dX6_load_79 rfl h (fun σ15 h => ?_)
  exact r_vret rfl dX6_load_82 h hE
noncomputable def BX6_load_7 (rl7 : Mem → Int64 → Int32 → Option (Mem)) (σ : Mem) (x1 : Int64) (x3 : Int32) : Option (Mem) :=
  if (σ.1 1 6) ≤ x3 then
  (FX6_load_65 σ x1)
  else
  (if (6 : Int32) ≤ x3 then
  (FX6_load_65 σ x1)
  else
  (bi (FX8_placeOf σ x1 x3) fun r17 σ16 =>
  stI σ16 22 6 x3 r17 fun σ18 =>
  if (36 : Int32) ≤ r17 then
  (nm (x3 + (1 : Int32)) fun x_19 =>
  rl7 σ18 x1 x_19)
  else
  (nm (setL σ18 2 3 ((σ18.2 2 3) ||| ((1 : Int64) <<< ((r17).toInt64 &&& 63)))) fun σ20 =>
  nm (x3 + (1 : Int32)) fun x_21 =>
  rl7 σ20 x1 x_21)))
set_option maxHeartbeats 4000000 in
set_option maxRecDepth 100000 in
theorem jX6_load_7 {X : CX} {out : Mem} (hE : Ends X SX none out) (rl7 : Mem → Int64 → Int32 → Option (Mem)) (hr7 : ∀ (σ : Mem) (x1 : Int64) (x3 : Int32), rl7 σ x1 x3 = some out → J X SX mX6_load σ 7 [(0, .ref (xad X 2)), (1, .long x1), (3, .int x3)] []) (σ : Mem) (x1 : Int64) (x3 : Int32) (h : BX6_load_7 rl7 σ x1 x3 = some out) : J X SX mX6_load σ 7 [(0, .ref (xad X 2)), (1, .long x1), (3, .int x3)] [] := by
  refine r_iload_n 2 dX6_load_7 rfl rfl rfl ?_
  refine r_aload_n 0 dX6_load_8 rfl rfl rfl ?_
  refine r_getR fg_RX6_21 rfl rfl dX6_load_9 rfl ?_
  refine r_getI fg_RX6_55 rfl rfl dX6_load_12 rfl ?_
  refine r_icmp_ge dX6_load_15 rfl rfl h (fun c h => ?_) (fun c h => ?_)
  · refine r_sub [0, 1] rfl ?_
    exact jX6_load_65 hE σ x1 h
  · refine r_iload_n 2 dX6_load_18 rfl rfl rfl ?_
    refine r_bipush dX6_load_19 rfl kb_6 ?_
    refine r_icmp_ge dX6_load_21 rfl rfl h (fun c h => ?_) (fun c h => ?_)
    · refine r_sub [0, 1] rfl ?_
      exact jX6_load_65 hE σ x1 h
    · refine r_lload_n 1 dX6_load_24 rfl rfl rfl ?_
      refine r_iload_n 2 dX6_load_25 rfl rfl rfl ?_
      obtain ⟨r17, σ16, hc, h⟩ := bi_of h
      refine r_callN [] [.int r17]  (coX8_placeOf σ x1 x3 r17 σ16 hc) mn_RX6_58 (by decide) rfl rfl (Nat.le_of_ble_eq_true rfl) rfl dX6_load_26 rfl ?_
      refine r_istoreV [(4, .int r17), (0, .ref (xad X 2)), (1, .long x1), (3, .int x3)] dX6_load_29 rfl (show 4 < 5 by decide) rfl ?_
      refine r_aload_n 1 dX6_load_31 rfl rfl rfl ?_
      refine r_getR fg_RX6_9 rfl rfl dX6_load_32 rfl ?_
      refine r_iload_n 3 dX6_load_35 rfl rfl rfl ?_
      refine r_iload 0 dX6_load_36 rfl rfl ?_
      refine r_iast rfl dX6_load_38 rfl h (fun σ18 h => ?_)
      refine r_iload 0 dX6_load_39 rfl rfl ?_
      refine r_bipush dX6_load_41 rfl kb_36 ?_
      refine r_icmp_ge dX6_load_43 rfl rfl h (fun c h => ?_) (fun c h => ?_)
      · refine r_iinc 3 (fun x_19 => [(3, .int x_19), (4, .int r17), (0, .ref (xad X 2)), (1, .long x1)]) dX6_load_59 rfl rfl ki_1 (show 3 < 5 by decide) (fun _ => rfl) h (fun x_19 h => ?_)
        refine r_goto dX6_load_62 rfl ?_
        refine r_sub [2, 3, 0] rfl ?_
        exact hr7 σ18 x1 x_19 h
      · refine r_aload_n 1 dX6_load_46 rfl rfl rfl ?_
        refine r_dup dX6_load_47 rfl rfl ?_
        refine r_getL fg_RX6_52 rfl rfl dX6_load_48 rfl ?_
        refine r_lconst dX6_load_51 rfl kl_1 ?_
        refine r_iload 0 dX6_load_52 rfl rfl ?_
        refine r_lshl dX6_load_54 rfl ?_
        refine r_lor dX6_load_55 rfl ?_
        refine r_putL fp_RX6_52 rfl rfl dX6_load_56 rfl h (fun σ20 h => ?_)
        refine r_iinc 3 (fun x_21 => [(3, .int x_21), (4, .int r17), (0, .ref (xad X 2)), (1, .long x1)]) dX6_load_59 rfl rfl ki_1 (show 3 < 5 by decide) (fun _ => rfl) h (fun x_21 h => ?_)
        refine r_goto dX6_load_62 rfl ?_
        refine r_sub [2, 3, 0] rfl ?_
        exact hr7 σ20 x1 x_21 h
noncomputable def FX6_load_7 (n : Nat) : Mem → Int64 → Int32 → Option (Mem) :=
  Nat.rec (fun _ _ _ => none) (fun _ ih => BX6_load_7 ih) n
theorem lX6_load_7 {X : CX} {out : Mem} (hE : Ends X SX none out) : ∀ (n : Nat) (σ : Mem) (x1 : Int64) (x3 : Int32), FX6_load_7 n σ x1 x3 = some out → J X SX mX6_load σ 7 [(0, .ref (xad X 2)), (1, .long x1), (3, .int x3)] [] := by
  intro n
  induction n with
  | zero => intro σ x1 x3 h; exact nn h
  | succ n ih => intro σ x1 x3 h; exact jX6_load_7 hE (FX6_load_7 n) ih σ x1 x3 h
noncomputable def FX6_load (σ : Mem) (a1 : Int64) : Option (Mem) :=
  nm (setL σ 2 3 (0 : Int64)) fun σ22 =>
  FX6_load_7 FU σ22 a1 (0 : Int32)
set_option maxHeartbeats 4000000 in
set_option maxRecDepth 100000 in
theorem eX6_load {X : CX} {out : Mem} (hE : Ends X SX none out) (σ : Mem) (a1 : Int64) (h : FX6_load σ a1 = some out) : J X SX mX6_load σ 0 [(0, .ref (xad X 2)), (1, .long a1)] [] := by
  refine r_aload_n 0 dX6_load_0 rfl rfl rfl ?_
  refine r_lconst dX6_load_1 rfl kl_0 ?_
  refine r_putL fp_RX6_52 rfl rfl dX6_load_2 rfl h (fun σ22 h => ?_)
  refine r_iconst dX6_load_5 rfl ki_0 ?_
  refine r_istoreV_n [(3, .int (0 : Int32)), (0, .ref (xad X 2)), (1, .long a1)] dX6_load_6 rfl rfl (show 3 < 5 by decide) rfl ?_
  refine r_sub [1, 2, 0] rfl ?_
  exact lX6_load_7 hE FU σ22 a1 (0 : Int32) h
theorem coX6_load (σ : Mem) (a1 : Int64) (σ2 : Mem) (h : FX6_load σ a1 = some σ2) : Con SX 3 yX6_load cX6_load 5 none (fun ad => [.ref (ad 2), .long a1]) σ (fun _ => none) σ2 :=
  con_of (by decide +kernel) (fun _ => Nat.le_of_ble_eq_true rfl) (fun X hE => eX6_load (out := σ2) hE σ a1 h)
-- IceYard withPlace
abbrev mX8_withPlace : MD := (cX8_withPlace, RX8, 5, (some .long), 1)
noncomputable def FX8_withPlace (σ : Mem) (a0 : Int64) (a2 : Int32) (a3 : Int32) : Option (Int64 × Mem) :=
  nm ((6 : Int32) * a2) fun x_2 =>
  some (((a0 &&& (((63 : Int64) <<< ((x_2).toInt64 &&& 63)) ^^^ (-1 : Int64))) ||| (((a3).toInt64) <<< ((x_2).toInt64 &&& 63))), σ)
set_option maxHeartbeats 4000000 in
set_option maxRecDepth 100000 in
theorem eX8_withPlace {X : CX} {out : Int64 × Mem} (hE : Ends X SX (some (.long out.1)) out.2) (σ : Mem) (a0 : Int64) (a2 : Int32) (a3 : Int32) (h : FX8_withPlace σ a0 a2 a3 = some out) : J X SX mX8_withPlace σ 0 [(0, .long a0), (2, .int a2), (3, .int a3)] [] := by
  refine r_bipush dX8_withPlace_0 rfl kb_6 ?_
  refine r_iload_n 1 dX8_withPlace_2 rfl rfl rfl ?_
  refine r_imul dX8_withPlace_3 rfl ?_
  refine r_istore (fun x_2 => [(4, .int x_2), (0, .long a0), (2, .int a2), (3, .int a3)]) dX8_withPlace_4 rfl (show 4 < 5 by decide) (fun _ => rfl) h (fun x_2 h => ?_)
  refine r_lload_n 1 dX8_withPlace_6 rfl rfl rfl ?_
  refine r_ldc2 dX8_withPlace_7 rfl cl_RX8_266 ?_
  refine r_iload 0 dX8_withPlace_10 rfl rfl ?_
  refine r_lshl dX8_withPlace_12 rfl ?_
  refine r_ldc2 dX8_withPlace_13 rfl cl_RX8_68 ?_
  refine r_lxor dX8_withPlace_16 rfl ?_
  refine r_land dX8_withPlace_17 rfl ?_
  refine r_iload_n 3 dX8_withPlace_18 rfl rfl rfl ?_
  refine r_i2l dX8_withPlace_19 rfl ?_
  refine r_iload 0 dX8_withPlace_20 rfl rfl ?_
  refine r_lshl dX8_withPlace_22 rfl ?_
  refine r_lor dX8_withPlace_23 rfl ?_
  exact r_lret rfl dX8_withPlace_24 h hE
theorem coX8_withPlace (σ : Mem) (a0 : Int64) (a2 : Int32) (a3 : Int32) (r : Int64) (σ2 : Mem) (h : FX8_withPlace σ a0 a2 a3 = some (r, σ2)) : Con SX 1 yX8_withPlace cX8_withPlace 5 (some .long) (fun ad => [.long a0, .int a2, .int a3]) σ (fun _ => some (.long r)) σ2 :=
  con_of (by decide +kernel) (fun _ => Nat.le_of_ble_eq_true rfl) (fun X hE => eX8_withPlace (out := (r, σ2)) hE σ a0 a2 a3 h)
-- IceYard$Ground wayFrom
abbrev mX1_wayFrom : MD := (cX1_wayFrom, RX1, 4, (some .int), 1)
noncomputable def FX1_wayFrom (σ : Mem) (a1 : Int32) (a2 : Int32) : Option (Int32 × Mem) :=
  nm ((a1 * (4 : Int32)) + a2) fun x_3 =>
  if x_3 < 0 then
  (some ((-1 : Int32), σ))
  else
  (if x_3 < (144 : Int32) then
  (rd x_3 144 fun j4 =>
  some ((σ.1 21 j4), σ))
  else
  (some ((-1 : Int32), σ)))
set_option maxHeartbeats 4000000 in
set_option maxRecDepth 100000 in
theorem eX1_wayFrom {X : CX} {out : Int32 × Mem} (hE : Ends X SX (some (.int out.1)) out.2) (σ : Mem) (a1 : Int32) (a2 : Int32) (h : FX1_wayFrom σ a1 a2 = some out) : J X SX mX1_wayFrom σ 0 [(0, .ref (xad X 1)), (1, .int a1), (2, .int a2)] [] := by
  refine r_iload_n 1 dX1_wayFrom_0 rfl rfl rfl ?_
  refine r_iconst dX1_wayFrom_1 rfl ki_4 ?_
  refine r_imul dX1_wayFrom_2 rfl ?_
  refine r_iload_n 2 dX1_wayFrom_3 rfl rfl rfl ?_
  refine r_iadd dX1_wayFrom_4 rfl ?_
  refine r_istore_n (fun x_3 => [(3, .int x_3), (0, .ref (xad X 1)), (1, .int a1), (2, .int a2)]) dX1_wayFrom_5 rfl rfl (show 3 < 4 by decide) (fun _ => rfl) h (fun x_3 h => ?_)
  refine r_iload_n 0 dX1_wayFrom_6 rfl rfl rfl ?_
  refine r_if_lt dX1_wayFrom_7 rfl rfl h (fun c h => ?_) (fun c h => ?_)
  · refine r_iconst dX1_wayFrom_19 rfl ki_m1 ?_
    refine r_goto dX1_wayFrom_20 rfl ?_
    exact r_iret rfl dX1_wayFrom_29 h hE
  · refine r_iload_n 0 dX1_wayFrom_10 rfl rfl rfl ?_
    refine r_aload_n 1 dX1_wayFrom_11 rfl rfl rfl ?_
    refine r_getR fg_RX1_21 rfl rfl dX1_wayFrom_12 rfl ?_
    refine r_alen rfl (by decide) rfl dX1_wayFrom_15 rfl ?_
    refine r_icmp_lt dX1_wayFrom_16 rfl rfl h (fun c h => ?_) (fun c h => ?_)
    · refine r_aload_n 1 dX1_wayFrom_23 rfl rfl rfl ?_
      refine r_getR fg_RX1_21 rfl rfl dX1_wayFrom_24 rfl ?_
      refine r_iload_n 0 dX1_wayFrom_27 rfl rfl rfl ?_
      refine r_iald rfl dX1_wayFrom_28 rfl h (fun j4 h => ?_)
      exact r_iret rfl dX1_wayFrom_29 h hE
    · refine r_iconst dX1_wayFrom_19 rfl ki_m1 ?_
      refine r_goto dX1_wayFrom_20 rfl ?_
      exact r_iret rfl dX1_wayFrom_29 h hE
theorem coX1_wayFrom (σ : Mem) (a1 : Int32) (a2 : Int32) (r : Int32) (σ2 : Mem) (h : FX1_wayFrom σ a1 a2 = some (r, σ2)) : Con SX 1 yX1_wayFrom cX1_wayFrom 4 (some .int) (fun ad => [.ref (ad 1), .int a1, .int a2]) σ (fun _ => some (.int r)) σ2 :=
  con_of (by decide +kernel) (fun _ => Nat.le_of_ble_eq_true rfl) (fun X hE => eX1_wayFrom (out := (r, σ2)) hE σ a1 a2 h)
-- IceYard$Slider blockIn
abbrev mX6_blockIn : MD := (cX6_blockIn, RX6, 3, (some .int), 1)
noncomputable def BX6_blockIn_2 (rl2 : Mem → Int32 → Int32 → Option (Int32 × Mem)) (σ : Mem) (x1 : Int32) (x2 : Int32) : Option (Int32 × Mem) :=
  if (σ.1 1 6) ≤ x2 then
  (some ((-1 : Int32), σ))
  else
  (if (6 : Int32) ≤ x2 then
  (some ((-1 : Int32), σ))
  else
  (rd x2 6 fun j3 =>
  if (σ.1 22 j3) = x1 then
  (some (x2, σ))
  else
  (nm (x2 + (1 : Int32)) fun x_4 =>
  rl2 σ x1 x_4)))
set_option maxHeartbeats 4000000 in
set_option maxRecDepth 100000 in
theorem jX6_blockIn_2 {X : CX} {out : Int32 × Mem} (hE : Ends X SX (some (.int out.1)) out.2) (rl2 : Mem → Int32 → Int32 → Option (Int32 × Mem)) (hr2 : ∀ (σ : Mem) (x1 : Int32) (x2 : Int32), rl2 σ x1 x2 = some out → J X SX mX6_blockIn σ 2 [(0, .ref (xad X 2)), (1, .int x1), (2, .int x2)] []) (σ : Mem) (x1 : Int32) (x2 : Int32) (h : BX6_blockIn_2 rl2 σ x1 x2 = some out) : J X SX mX6_blockIn σ 2 [(0, .ref (xad X 2)), (1, .int x1), (2, .int x2)] [] := by
  refine r_iload_n 2 dX6_blockIn_2 rfl rfl rfl ?_
  refine r_aload_n 0 dX6_blockIn_3 rfl rfl rfl ?_
  refine r_getR fg_RX6_21 rfl rfl dX6_blockIn_4 rfl ?_
  refine r_getI fg_RX6_55 rfl rfl dX6_blockIn_7 rfl ?_
  refine r_icmp_ge dX6_blockIn_10 rfl rfl h (fun c h => ?_) (fun c h => ?_)
  · refine r_iconst dX6_blockIn_37 rfl ki_m1 ?_
    exact r_iret rfl dX6_blockIn_38 h hE
  · refine r_iload_n 2 dX6_blockIn_13 rfl rfl rfl ?_
    refine r_bipush dX6_blockIn_14 rfl kb_6 ?_
    refine r_icmp_ge dX6_blockIn_16 rfl rfl h (fun c h => ?_) (fun c h => ?_)
    · refine r_iconst dX6_blockIn_37 rfl ki_m1 ?_
      exact r_iret rfl dX6_blockIn_38 h hE
    · refine r_aload_n 0 dX6_blockIn_19 rfl rfl rfl ?_
      refine r_getR fg_RX6_9 rfl rfl dX6_blockIn_20 rfl ?_
      refine r_iload_n 2 dX6_blockIn_23 rfl rfl rfl ?_
      refine r_iald rfl dX6_blockIn_24 rfl h (fun j3 h => ?_)
      refine r_iload_n 1 dX6_blockIn_25 rfl rfl rfl ?_
      refine r_icmp_ne dX6_blockIn_26 rfl rfl h (fun c h => ?_) (fun c h => ?_)
      · refine r_iinc 2 (fun x_4 => [(2, .int x_4), (0, .ref (xad X 2)), (1, .int x1)]) dX6_blockIn_31 rfl rfl ki_1 (show 2 < 3 by decide) (fun _ => rfl) h (fun x_4 h => ?_)
        refine r_goto dX6_blockIn_34 rfl ?_
        refine r_sub [1, 2, 0] rfl ?_
        exact hr2 σ x1 x_4 h
      · refine r_iload_n 2 dX6_blockIn_29 rfl rfl rfl ?_
        exact r_iret rfl dX6_blockIn_30 h hE
noncomputable def FX6_blockIn_2 (n : Nat) : Mem → Int32 → Int32 → Option (Int32 × Mem) :=
  Nat.rec (fun _ _ _ => none) (fun _ ih => BX6_blockIn_2 ih) n
theorem lX6_blockIn_2 {X : CX} {out : Int32 × Mem} (hE : Ends X SX (some (.int out.1)) out.2) : ∀ (n : Nat) (σ : Mem) (x1 : Int32) (x2 : Int32), FX6_blockIn_2 n σ x1 x2 = some out → J X SX mX6_blockIn σ 2 [(0, .ref (xad X 2)), (1, .int x1), (2, .int x2)] [] := by
  intro n
  induction n with
  | zero => intro σ x1 x2 h; exact nn h
  | succ n ih => intro σ x1 x2 h; exact jX6_blockIn_2 hE (FX6_blockIn_2 n) ih σ x1 x2 h
noncomputable def FX6_blockIn (σ : Mem) (a1 : Int32) : Option (Int32 × Mem) :=
  FX6_blockIn_2 FU σ a1 (0 : Int32)
set_option maxHeartbeats 4000000 in
set_option maxRecDepth 100000 in
theorem eX6_blockIn {X : CX} {out : Int32 × Mem} (hE : Ends X SX (some (.int out.1)) out.2) (σ : Mem) (a1 : Int32) (h : FX6_blockIn σ a1 = some out) : J X SX mX6_blockIn σ 0 [(0, .ref (xad X 2)), (1, .int a1)] [] := by
  refine r_iconst dX6_blockIn_0 rfl ki_0 ?_
  refine r_istoreV_n [(2, .int (0 : Int32)), (0, .ref (xad X 2)), (1, .int a1)] dX6_blockIn_1 rfl rfl (show 2 < 3 by decide) rfl ?_
  refine r_sub [1, 2, 0] rfl ?_
  exact lX6_blockIn_2 hE FU σ a1 (0 : Int32) h
theorem coX6_blockIn (σ : Mem) (a1 : Int32) (r : Int32) (σ2 : Mem) (h : FX6_blockIn σ a1 = some (r, σ2)) : Con SX 1 yX6_blockIn cX6_blockIn 3 (some .int) (fun ad => [.ref (ad 2), .int a1]) σ (fun _ => some (.int r)) σ2 :=
  con_of (by decide +kernel) (fun _ => Nat.le_of_ble_eq_true rfl) (fun X hE => eX6_blockIn (out := (r, σ2)) hE σ a1 h)
-- IceYard$Ground fillCrack
abbrev mX1_fillCrack : MD := (cX1_fillCrack, RX1, 5, (some .long), 1)
noncomputable def BX1_fillCrack_3 (rl3 : Mem → Int64 → Int32 → Int32 → Option (Int64 × Mem)) (σ : Mem) (x1 : Int64) (x3 : Int32) (x4 : Int32) : Option (Int64 × Mem) :=
  if (σ.1 1 7) ≤ x4 then
  (some (x1, σ))
  else
  (if (4 : Int32) ≤ x4 then
  (some (x1, σ))
  else
  (rd x4 4 fun j3 =>
  if (σ.1 20 j3) = x3 then
  (some ((x1 ||| ((1 : Int64) <<< ((((36 : Int32) + x4)).toInt64 &&& 63))), σ))
  else
  (nm (x4 + (1 : Int32)) fun x_4 =>
  rl3 σ x1 x3 x_4)))
set_option maxHeartbeats 4000000 in
set_option maxRecDepth 100000 in
theorem jX1_fillCrack_3 {X : CX} {out : Int64 × Mem} (hE : Ends X SX (some (.long out.1)) out.2) (rl3 : Mem → Int64 → Int32 → Int32 → Option (Int64 × Mem)) (hr3 : ∀ (σ : Mem) (x1 : Int64) (x3 : Int32) (x4 : Int32), rl3 σ x1 x3 x4 = some out → J X SX mX1_fillCrack σ 3 [(0, .ref (xad X 1)), (1, .long x1), (3, .int x3), (4, .int x4)] []) (σ : Mem) (x1 : Int64) (x3 : Int32) (x4 : Int32) (h : BX1_fillCrack_3 rl3 σ x1 x3 x4 = some out) : J X SX mX1_fillCrack σ 3 [(0, .ref (xad X 1)), (1, .long x1), (3, .int x3), (4, .int x4)] [] := by
  refine r_iload 3 dX1_fillCrack_3 rfl rfl ?_
  refine r_aload_n 0 dX1_fillCrack_5 rfl rfl rfl ?_
  refine r_getI fg_RX1_44 rfl rfl dX1_fillCrack_6 rfl ?_
  refine r_icmp_ge dX1_fillCrack_9 rfl rfl h (fun c h => ?_) (fun c h => ?_)
  · refine r_lload_n 1 dX1_fillCrack_45 rfl rfl rfl ?_
    exact r_lret rfl dX1_fillCrack_46 h hE
  · refine r_iload 3 dX1_fillCrack_12 rfl rfl ?_
    refine r_iconst dX1_fillCrack_14 rfl ki_4 ?_
    refine r_icmp_ge dX1_fillCrack_15 rfl rfl h (fun c h => ?_) (fun c h => ?_)
    · refine r_lload_n 1 dX1_fillCrack_45 rfl rfl rfl ?_
      exact r_lret rfl dX1_fillCrack_46 h hE
    · refine r_aload_n 0 dX1_fillCrack_18 rfl rfl rfl ?_
      refine r_getR fg_RX1_18 rfl rfl dX1_fillCrack_19 rfl ?_
      refine r_iload 3 dX1_fillCrack_22 rfl rfl ?_
      refine r_iald rfl dX1_fillCrack_24 rfl h (fun j3 h => ?_)
      refine r_iload_n 2 dX1_fillCrack_25 rfl rfl rfl ?_
      refine r_icmp_ne dX1_fillCrack_26 rfl rfl h (fun c h => ?_) (fun c h => ?_)
      · refine r_iinc 3 (fun x_4 => [(4, .int x_4), (0, .ref (xad X 1)), (1, .long x1), (3, .int x3)]) dX1_fillCrack_39 rfl rfl ki_1 (show 4 < 5 by decide) (fun _ => rfl) h (fun x_4 h => ?_)
        refine r_goto dX1_fillCrack_42 rfl ?_
        refine r_sub [1, 2, 3, 0] rfl ?_
        exact hr3 σ x1 x3 x_4 h
      · refine r_lload_n 1 dX1_fillCrack_29 rfl rfl rfl ?_
        refine r_lconst dX1_fillCrack_30 rfl kl_1 ?_
        refine r_bipush dX1_fillCrack_31 rfl kb_36 ?_
        refine r_iload 3 dX1_fillCrack_33 rfl rfl ?_
        refine r_iadd dX1_fillCrack_35 rfl ?_
        refine r_lshl dX1_fillCrack_36 rfl ?_
        refine r_lor dX1_fillCrack_37 rfl ?_
        exact r_lret rfl dX1_fillCrack_38 h hE
noncomputable def FX1_fillCrack_3 (n : Nat) : Mem → Int64 → Int32 → Int32 → Option (Int64 × Mem) :=
  Nat.rec (fun _ _ _ _ => none) (fun _ ih => BX1_fillCrack_3 ih) n
theorem lX1_fillCrack_3 {X : CX} {out : Int64 × Mem} (hE : Ends X SX (some (.long out.1)) out.2) : ∀ (n : Nat) (σ : Mem) (x1 : Int64) (x3 : Int32) (x4 : Int32), FX1_fillCrack_3 n σ x1 x3 x4 = some out → J X SX mX1_fillCrack σ 3 [(0, .ref (xad X 1)), (1, .long x1), (3, .int x3), (4, .int x4)] [] := by
  intro n
  induction n with
  | zero => intro σ x1 x3 x4 h; exact nn h
  | succ n ih => intro σ x1 x3 x4 h; exact jX1_fillCrack_3 hE (FX1_fillCrack_3 n) ih σ x1 x3 x4 h
noncomputable def FX1_fillCrack (σ : Mem) (a1 : Int64) (a3 : Int32) : Option (Int64 × Mem) :=
  FX1_fillCrack_3 FU σ a1 a3 (0 : Int32)
set_option maxHeartbeats 4000000 in
set_option maxRecDepth 100000 in
theorem eX1_fillCrack {X : CX} {out : Int64 × Mem} (hE : Ends X SX (some (.long out.1)) out.2) (σ : Mem) (a1 : Int64) (a3 : Int32) (h : FX1_fillCrack σ a1 a3 = some out) : J X SX mX1_fillCrack σ 0 [(0, .ref (xad X 1)), (1, .long a1), (3, .int a3)] [] := by
  refine r_iconst dX1_fillCrack_0 rfl ki_0 ?_
  refine r_istoreV [(4, .int (0 : Int32)), (0, .ref (xad X 1)), (1, .long a1), (3, .int a3)] dX1_fillCrack_1 rfl (show 4 < 5 by decide) rfl ?_
  refine r_sub [1, 2, 3, 0] rfl ?_
  exact lX1_fillCrack_3 hE FU σ a1 a3 (0 : Int32) h
theorem coX1_fillCrack (σ : Mem) (a1 : Int64) (a3 : Int32) (r : Int64) (σ2 : Mem) (h : FX1_fillCrack σ a1 a3 = some (r, σ2)) : Con SX 1 yX1_fillCrack cX1_fillCrack 5 (some .long) (fun ad => [.ref (ad 1), .long a1, .int a3]) σ (fun _ => some (.long r)) σ2 :=
  con_of (by decide +kernel) (fun _ => Nat.le_of_ble_eq_true rfl) (fun X hE => eX1_fillCrack (out := (r, σ2)) hE σ a1 a3 h)
-- IceYard$Slider leave
abbrev mX6_leave : MD := (cX6_leave, RX6, 3, none, 2)
noncomputable def FX6_leave_59 (σ : Mem) (x1 : Int32) (s0 : Int32) : Option (Mem) :=
  nm (setI σ 2 9 s0) fun σ15 =>
  bi (FX8_withPlace σ15 (σ15.2 2 6) x1 ((37 : Int32) + (σ15.1 2 9))) fun r17 σ16 =>
  nm (setL σ16 2 6 r17) fun σ18 =>
  some σ18
set_option maxHeartbeats 4000000 in
set_option maxRecDepth 100000 in
theorem jX6_leave_59 {X : CX} {out : Mem} (hE : Ends X SX none out) (σ : Mem) (x1 : Int32) (s0 : Int32) (h : FX6_leave_59 σ x1 s0 = some out) : J X SX mX6_leave σ 59 [(0, .ref (xad X 2)), (1, .int x1)] [.int s0, .ref (xad X 2)] := by
  refine r_putI fp_RX6_39 rfl rfl dX6_leave_59 rfl h (fun σ15 h => ?_)
  refine r_aload_n 0 dX6_leave_62 rfl rfl rfl ?_
  refine r_aload_n 0 dX6_leave_63 rfl rfl rfl ?_
  refine r_getL fg_RX6_29 rfl rfl dX6_leave_64 rfl ?_
  refine r_iload_n 1 dX6_leave_67 rfl rfl rfl ?_
  refine r_bipush dX6_leave_68 rfl kb_37 ?_
  refine r_aload_n 0 dX6_leave_70 rfl rfl rfl ?_
  refine r_getI fg_RX6_39 rfl rfl dX6_leave_71 rfl ?_
  refine r_iadd dX6_leave_74 rfl ?_
  obtain ⟨r17, σ16, hc, h⟩ := bi_of h
  refine r_callN [.ref (xad X 2)] [.long r17, .ref (xad X 2)]  (coX8_withPlace σ15 (σ15.2 2 6) x1 ((37 : Int32) + (σ15.1 2 9)) r17 σ16 hc) mn_RX6_91 (by decide) rfl rfl (Nat.le_of_ble_eq_true rfl) rfl dX6_leave_75 rfl ?_
  refine r_putL fp_RX6_29 rfl rfl dX6_leave_78 rfl h (fun σ18 h => ?_)
  exact r_vret rfl dX6_leave_81 h hE
noncomputable def FX6_leave (σ : Mem) (a1 : Int32) (a2 : Int32) : Option (Mem) :=
  bi (FX8_has σ (σ.2 2 4) a2) fun r20 σ19 =>
  if r20 = 0 then
  (nm (setI σ19 2 8 a1) fun σ21 =>
  bi (FX8_has σ21 (σ21.2 1 10) a2) fun r23 σ22 =>
  if r23 = 0 then
  (FX6_leave_59 σ22 a1 (1 : Int32))
  else
  (FX6_leave_59 σ22 a1 (0 : Int32)))
  else
  (bi (FX8_withPlace σ19 (σ19.2 2 6) a1 (36 : Int32)) fun r25 σ24 =>
  bi (FX1_fillCrack σ24 r25 a2) fun r27 σ26 =>
  nm (setL σ26 2 6 r27) fun σ28 =>
  some σ28)
set_option maxHeartbeats 4000000 in
set_option maxRecDepth 100000 in
theorem eX6_leave {X : CX} {out : Mem} (hE : Ends X SX none out) (σ : Mem) (a1 : Int32) (a2 : Int32) (h : FX6_leave σ a1 a2 = some out) : J X SX mX6_leave σ 0 [(0, .ref (xad X 2)), (1, .int a1), (2, .int a2)] [] := by
  refine r_aload_n 0 dX6_leave_0 rfl rfl rfl ?_
  refine r_getL fg_RX6_66 rfl rfl dX6_leave_1 rfl ?_
  refine r_iload_n 2 dX6_leave_4 rfl rfl rfl ?_
  obtain ⟨r20, σ19, hc, h⟩ := bi_of h
  refine r_callN [] [.int r20]  (coX8_has σ (σ.2 2 4) a2 r20 σ19 hc) mn_RX6_87 (by decide) rfl rfl (Nat.le_of_ble_eq_true rfl) rfl dX6_leave_5 rfl ?_
  refine r_if_eq dX6_leave_8 rfl rfl h (fun c h => ?_) (fun c h => ?_)
  · refine r_aload_n 0 dX6_leave_34 rfl rfl rfl ?_
    refine r_iload_n 1 dX6_leave_35 rfl rfl rfl ?_
    refine r_putI fp_RX6_35 rfl rfl dX6_leave_36 rfl h (fun σ21 h => ?_)
    refine r_aload_n 0 dX6_leave_39 rfl rfl rfl ?_
    refine r_aload_n 0 dX6_leave_40 rfl rfl rfl ?_
    refine r_getR fg_RX6_21 rfl rfl dX6_leave_41 rfl ?_
    refine r_getL fg_RX6_78 rfl rfl dX6_leave_44 rfl ?_
    refine r_iload_n 2 dX6_leave_47 rfl rfl rfl ?_
    obtain ⟨r23, σ22, hc, h⟩ := bi_of h
    refine r_callN [.ref (xad X 2)] [.int r23, .ref (xad X 2)]  (coX8_has σ21 (σ21.2 1 10) a2 r23 σ22 hc) mn_RX6_87 (by decide) rfl rfl (Nat.le_of_ble_eq_true rfl) rfl dX6_leave_48 rfl ?_
    refine r_if_eq dX6_leave_51 rfl rfl h (fun c h => ?_) (fun c h => ?_)
    · refine r_iconst dX6_leave_58 rfl ki_1 ?_
      refine r_sub [0, 1] rfl ?_
      exact jX6_leave_59 hE σ22 a1 (1 : Int32) h
    · refine r_iconst dX6_leave_54 rfl ki_0 ?_
      refine r_goto dX6_leave_55 rfl ?_
      refine r_sub [0, 1] rfl ?_
      exact jX6_leave_59 hE σ22 a1 (0 : Int32) h
  · refine r_aload_n 0 dX6_leave_11 rfl rfl rfl ?_
    refine r_aload_n 0 dX6_leave_12 rfl rfl rfl ?_
    refine r_getR fg_RX6_21 rfl rfl dX6_leave_13 rfl ?_
    refine r_aload_n 0 dX6_leave_16 rfl rfl rfl ?_
    refine r_getL fg_RX6_29 rfl rfl dX6_leave_17 rfl ?_
    refine r_iload_n 1 dX6_leave_20 rfl rfl rfl ?_
    refine r_bipush dX6_leave_21 rfl kb_36 ?_
    obtain ⟨r25, σ24, hc, h⟩ := bi_of h
    refine r_callN [.ref (xad X 1), .ref (xad X 2)] [.long r25, .ref (xad X 1), .ref (xad X 2)]  (coX8_withPlace σ19 (σ19.2 2 6) a1 (36 : Int32) r25 σ24 hc) mn_RX6_91 (by decide) rfl rfl (Nat.le_of_ble_eq_true rfl) rfl dX6_leave_23 rfl ?_
    refine r_iload_n 2 dX6_leave_26 rfl rfl rfl ?_
    obtain ⟨r27, σ26, hc, h⟩ := bi_of h
    refine r_callV [.long r25, .int a2] [.ref (xad X 2)] [.long r27, .ref (xad X 2)]  (coX1_fillCrack σ24 r25 a2 r27 σ26 hc) mv_RX6_102 (by decide) rfl rfl rfl rfl rfl (Nat.le_of_ble_eq_true rfl) rfl dX6_leave_27 rfl ?_
    refine r_putL fp_RX6_29 rfl rfl dX6_leave_30 rfl h (fun σ28 h => ?_)
    exact r_vret rfl dX6_leave_33 h hE
theorem coX6_leave (σ : Mem) (a1 : Int32) (a2 : Int32) (σ2 : Mem) (h : FX6_leave σ a1 a2 = some σ2) : Con SX 2 yX6_leave cX6_leave 3 none (fun ad => [.ref (ad 2), .int a1, .int a2]) σ (fun _ => none) σ2 :=
  con_of (by decide +kernel) (fun _ => Nat.le_of_ble_eq_true rfl) (fun X hE => eX6_leave (out := σ2) hE σ a1 a2 h)
-- IceYard$Slider slideOne
abbrev mX6_slideOne : MD := (cX6_slideOne, RX6, 11, (some .int), 3)
noncomputable def FX6_slideOne_114 (σ : Mem) (x1 : Int32) (x3 : Int32) (x4 : Int32) (x10 : Int32) : Option (Int32 × Mem) :=
  bi (FX8_withPlace σ (σ.2 2 6) x1 x4) fun r28 σ27 =>
  nm (setL σ27 2 6 r28) fun σ29 =>
  if x10 < 0 then
  (some ((-1 : Int32), σ29))
  else
  (if x3 < (1 : Int32) then
  (some ((-1 : Int32), σ29))
  else
  (bi (FX6_blockIn σ29 x10) fun r31 σ30 =>
  some (r31, σ30)))
set_option maxHeartbeats 4000000 in
set_option maxRecDepth 100000 in
theorem jX6_slideOne_114 {X : CX} {out : Int32 × Mem} (hE : Ends X SX (some (.int out.1)) out.2) (σ : Mem) (x1 : Int32) (x3 : Int32) (x4 : Int32) (x10 : Int32) (h : FX6_slideOne_114 σ x1 x3 x4 x10 = some out) : J X SX mX6_slideOne σ 114 [(0, .ref (xad X 2)), (1, .int x1), (3, .int x3), (4, .int x4), (10, .int x10)] [] := by
  refine r_aload_n 0 dX6_slideOne_114 rfl rfl rfl ?_
  refine r_aload_n 0 dX6_slideOne_115 rfl rfl rfl ?_
  refine r_getL fg_RX6_29 rfl rfl dX6_slideOne_116 rfl ?_
  refine r_iload_n 1 dX6_slideOne_119 rfl rfl rfl ?_
  refine r_iload 3 dX6_slideOne_120 rfl rfl ?_
  obtain ⟨r28, σ27, hc, h⟩ := bi_of h
  refine r_callN [.ref (xad X 2)] [.long r28, .ref (xad X 2)]  (coX8_withPlace σ (σ.2 2 6) x1 x4 r28 σ27 hc) mn_RX6_91 (by decide) rfl rfl (Nat.le_of_ble_eq_true rfl) rfl dX6_slideOne_122 rfl ?_
  refine r_putL fp_RX6_29 rfl rfl dX6_slideOne_125 rfl h (fun σ29 h => ?_)
  refine r_iload 4 dX6_slideOne_128 rfl rfl ?_
  refine r_if_lt dX6_slideOne_130 rfl rfl h (fun c h => ?_) (fun c h => ?_)
  · refine r_iconst dX6_slideOne_147 rfl ki_m1 ?_
    exact r_iret rfl dX6_slideOne_148 h hE
  · refine r_iload_n 2 dX6_slideOne_133 rfl rfl rfl ?_
    refine r_iconst dX6_slideOne_134 rfl ki_1 ?_
    refine r_icmp_lt dX6_slideOne_135 rfl rfl h (fun c h => ?_) (fun c h => ?_)
    · refine r_iconst dX6_slideOne_147 rfl ki_m1 ?_
      exact r_iret rfl dX6_slideOne_148 h hE
    · refine r_aload_n 0 dX6_slideOne_138 rfl rfl rfl ?_
      refine r_iload 4 dX6_slideOne_139 rfl rfl ?_
      obtain ⟨r31, σ30, hc, h⟩ := bi_of h
      refine r_callV [.int x10] [] [.int r31]  (coX6_blockIn σ29 x10 r31 σ30 hc) mv_RX6_95 (by decide) rfl rfl rfl rfl rfl (Nat.le_of_ble_eq_true rfl) rfl dX6_slideOne_141 rfl ?_
      refine r_goto dX6_slideOne_144 rfl ?_
      exact r_iret rfl dX6_slideOne_148 h hE
noncomputable def BX6_slideOne_78 (rl78 : Mem → Int32 → Int32 → Int32 → Int32 → Int64 → Int64 → Int32 → Option (Int32 × Mem)) (σ : Mem) (x1 : Int32) (x2 : Int32) (x3 : Int32) (x4 : Int32) (x5 : Int64) (x7 : Int64) (x9 : Int32) : Option (Int32 × Mem) :=
  if (36 : Int32) ≤ x9 then
  (some ((-1 : Int32), σ))
  else
  (bi (FX1_wayFrom σ x4 x2) fun r33 σ32 =>
  if r33 < 0 then
  (FX6_slideOne_114 σ32 x1 x3 x4 r33)
  else
  (bi (FX8_has σ32 (σ32.2 2 3) r33) fun r35 σ34 =>
  if r35 = 0 then
  (nm (setL σ34 2 7 ((σ34.2 2 7) ||| ((1 : Int64) <<< ((r33).toInt64 &&& 63)))) fun σ36 =>
  bi (FX8_has σ36 x7 r33) fun r38 σ37 =>
  if r38 = 0 then
  (bi (FX8_has σ37 x5 r33) fun r40 σ39 =>
  if r40 = 0 then
  (nm (x9 + (1 : Int32)) fun x_41 =>
  rl78 σ39 x1 x2 x3 r33 x5 x7 x_41)
  else
  (bi (FX8_withPlace σ39 (σ39.2 2 6) x1 r33) fun r43 σ42 =>
  nm (setL σ42 2 6 r43) fun σ44 =>
  some ((-1 : Int32), σ44)))
  else
  (bv (FX6_leave σ37 x1 r33) fun σ45 =>
  some ((-1 : Int32), σ45)))
  else
  (FX6_slideOne_114 σ34 x1 x3 x4 r33)))
set_option maxHeartbeats 4000000 in
set_option maxRecDepth 100000 in
theorem jX6_slideOne_78 {X : CX} {out : Int32 × Mem} (hE : Ends X SX (some (.int out.1)) out.2) (rl78 : Mem → Int32 → Int32 → Int32 → Int32 → Int64 → Int64 → Int32 → Option (Int32 × Mem)) (hr78 : ∀ (σ : Mem) (x1 : Int32) (x2 : Int32) (x3 : Int32) (x4 : Int32) (x5 : Int64) (x7 : Int64) (x9 : Int32), rl78 σ x1 x2 x3 x4 x5 x7 x9 = some out → J X SX mX6_slideOne σ 78 [(0, .ref (xad X 2)), (1, .int x1), (2, .int x2), (3, .int x3), (4, .int x4), (5, .long x5), (7, .long x7), (9, .int x9)] []) (σ : Mem) (x1 : Int32) (x2 : Int32) (x3 : Int32) (x4 : Int32) (x5 : Int64) (x7 : Int64) (x9 : Int32) (h : BX6_slideOne_78 rl78 σ x1 x2 x3 x4 x5 x7 x9 = some out) : J X SX mX6_slideOne σ 78 [(0, .ref (xad X 2)), (1, .int x1), (2, .int x2), (3, .int x3), (4, .int x4), (5, .long x5), (7, .long x7), (9, .int x9)] [] := by
  refine r_iload 7 dX6_slideOne_78 rfl rfl ?_
  refine r_bipush dX6_slideOne_80 rfl kb_36 ?_
  refine r_icmp_ge dX6_slideOne_82 rfl rfl h (fun c h => ?_) (fun c h => ?_)
  · refine r_iconst dX6_slideOne_217 rfl ki_m1 ?_
    exact r_iret rfl dX6_slideOne_218 h hE
  · refine r_aload_n 0 dX6_slideOne_85 rfl rfl rfl ?_
    refine r_getR fg_RX6_21 rfl rfl dX6_slideOne_86 rfl ?_
    refine r_iload 4 dX6_slideOne_89 rfl rfl ?_
    refine r_iload_n 2 dX6_slideOne_91 rfl rfl rfl ?_
    obtain ⟨r33, σ32, hc, h⟩ := bi_of h
    refine r_callV [.int x4, .int x2] [] [.int r33]  (coX1_wayFrom σ x4 x2 r33 σ32 hc) mv_RX6_84 (by decide) rfl rfl rfl rfl rfl (Nat.le_of_ble_eq_true rfl) rfl dX6_slideOne_92 rfl ?_
    refine r_istoreV [(10, .int r33), (0, .ref (xad X 2)), (1, .int x1), (2, .int x2), (3, .int x3), (4, .int x4), (5, .long x5), (7, .long x7), (9, .int x9)] dX6_slideOne_95 rfl (show 10 < 11 by decide) rfl ?_
    refine r_iload 0 dX6_slideOne_97 rfl rfl ?_
    refine r_if_lt dX6_slideOne_99 rfl rfl h (fun c h => ?_) (fun c h => ?_)
    · refine r_sub [1, 2, 4, 5, 0] rfl ?_
      exact jX6_slideOne_114 hE σ32 x1 x3 x4 r33 h
    · refine r_aload_n 1 dX6_slideOne_102 rfl rfl rfl ?_
      refine r_getL fg_RX6_52 rfl rfl dX6_slideOne_103 rfl ?_
      refine r_iload 0 dX6_slideOne_106 rfl rfl ?_
      obtain ⟨r35, σ34, hc, h⟩ := bi_of h
      refine r_callN [] [.int r35]  (coX8_has σ32 (σ32.2 2 3) r33 r35 σ34 hc) mn_RX6_87 (by decide) rfl rfl (Nat.le_of_ble_eq_true rfl) rfl dX6_slideOne_108 rfl ?_
      refine r_if_eq dX6_slideOne_111 rfl rfl h (fun c h => ?_) (fun c h => ?_)
      · refine r_iload 0 dX6_slideOne_149 rfl rfl ?_
        refine r_istoreV [(4, .int r33), (10, .int r33), (0, .ref (xad X 2)), (1, .int x1), (2, .int x2), (3, .int x3), (5, .long x5), (7, .long x7), (9, .int x9)] dX6_slideOne_151 rfl (show 4 < 11 by decide) rfl ?_
        refine r_aload_n 2 dX6_slideOne_153 rfl rfl rfl ?_
        refine r_dup dX6_slideOne_154 rfl rfl ?_
        refine r_getL fg_RX6_32 rfl rfl dX6_slideOne_155 rfl ?_
        refine r_lconst dX6_slideOne_158 rfl kl_1 ?_
        refine r_iload 0 dX6_slideOne_159 rfl rfl ?_
        refine r_lshl dX6_slideOne_161 rfl ?_
        refine r_lor dX6_slideOne_162 rfl ?_
        refine r_putL fp_RX6_32 rfl rfl dX6_slideOne_163 rfl h (fun σ36 h => ?_)
        refine r_lload 7 dX6_slideOne_166 rfl rfl ?_
        refine r_iload 0 dX6_slideOne_168 rfl rfl ?_
        obtain ⟨r38, σ37, hc, h⟩ := bi_of h
        refine r_callN [] [.int r38]  (coX8_has σ36 x7 r33 r38 σ37 hc) mn_RX6_87 (by decide) rfl rfl (Nat.le_of_ble_eq_true rfl) rfl dX6_slideOne_170 rfl ?_
        refine r_if_eq dX6_slideOne_173 rfl rfl h (fun c h => ?_) (fun c h => ?_)
        · refine r_lload 6 dX6_slideOne_185 rfl rfl ?_
          refine r_iload 0 dX6_slideOne_187 rfl rfl ?_
          obtain ⟨r40, σ39, hc, h⟩ := bi_of h
          refine r_callN [] [.int r40]  (coX8_has σ37 x5 r33 r40 σ39 hc) mn_RX6_87 (by decide) rfl rfl (Nat.le_of_ble_eq_true rfl) rfl dX6_slideOne_189 rfl ?_
          refine r_if_eq dX6_slideOne_192 rfl rfl h (fun c h => ?_) (fun c h => ?_)
          · refine r_iinc 8 (fun x_41 => [(9, .int x_41), (4, .int r33), (10, .int r33), (0, .ref (xad X 2)), (1, .int x1), (2, .int x2), (3, .int x3), (5, .long x5), (7, .long x7)]) dX6_slideOne_211 rfl rfl ki_1 (show 9 < 11 by decide) (fun _ => rfl) h (fun x_41 h => ?_)
            refine r_goto dX6_slideOne_214 rfl ?_
            refine r_sub [3, 4, 5, 6, 1, 7, 8, 0] rfl ?_
            exact hr78 σ39 x1 x2 x3 r33 x5 x7 x_41 h
          · refine r_aload_n 2 dX6_slideOne_195 rfl rfl rfl ?_
            refine r_aload_n 2 dX6_slideOne_196 rfl rfl rfl ?_
            refine r_getL fg_RX6_29 rfl rfl dX6_slideOne_197 rfl ?_
            refine r_iload_n 3 dX6_slideOne_200 rfl rfl rfl ?_
            refine r_iload 0 dX6_slideOne_201 rfl rfl ?_
            obtain ⟨r43, σ42, hc, h⟩ := bi_of h
            refine r_callN [.ref (xad X 2)] [.long r43, .ref (xad X 2)]  (coX8_withPlace σ39 (σ39.2 2 6) x1 r33 r43 σ42 hc) mn_RX6_91 (by decide) rfl rfl (Nat.le_of_ble_eq_true rfl) rfl dX6_slideOne_203 rfl ?_
            refine r_putL fp_RX6_29 rfl rfl dX6_slideOne_206 rfl h (fun σ44 h => ?_)
            refine r_iconst dX6_slideOne_209 rfl ki_m1 ?_
            exact r_iret rfl dX6_slideOne_210 h hE
        · refine r_aload_n 2 dX6_slideOne_176 rfl rfl rfl ?_
          refine r_iload_n 3 dX6_slideOne_177 rfl rfl rfl ?_
          refine r_iload 0 dX6_slideOne_178 rfl rfl ?_
          obtain ⟨σ45, hc, h⟩ := bv_of h
          refine r_callV [.int x1, .int r33] [] []  (coX6_leave σ37 x1 r33 σ45 hc) mv_RX6_98 (by decide) rfl rfl rfl rfl rfl (Nat.le_of_ble_eq_true rfl) rfl dX6_slideOne_180 rfl ?_
          refine r_iconst dX6_slideOne_183 rfl ki_m1 ?_
          exact r_iret rfl dX6_slideOne_184 h hE
      · refine r_sub [1, 2, 4, 5, 0] rfl ?_
        exact jX6_slideOne_114 hE σ34 x1 x3 x4 r33 h
noncomputable def FX6_slideOne_78 (n : Nat) : Mem → Int32 → Int32 → Int32 → Int32 → Int64 → Int64 → Int32 → Option (Int32 × Mem) :=
  Nat.rec (fun _ _ _ _ _ _ _ _ => none) (fun _ ih => BX6_slideOne_78 ih) n
theorem lX6_slideOne_78 {X : CX} {out : Int32 × Mem} (hE : Ends X SX (some (.int out.1)) out.2) : ∀ (n : Nat) (σ : Mem) (x1 : Int32) (x2 : Int32) (x3 : Int32) (x4 : Int32) (x5 : Int64) (x7 : Int64) (x9 : Int32), FX6_slideOne_78 n σ x1 x2 x3 x4 x5 x7 x9 = some out → J X SX mX6_slideOne σ 78 [(0, .ref (xad X 2)), (1, .int x1), (2, .int x2), (3, .int x3), (4, .int x4), (5, .long x5), (7, .long x7), (9, .int x9)] [] := by
  intro n
  induction n with
  | zero => intro σ x1 x2 x3 x4 x5 x7 x9 h; exact nn h
  | succ n ih => intro σ x1 x2 x3 x4 x5 x7 x9 h; exact jX6_slideOne_78 hE (FX6_slideOne_78 n) ih σ x1 x2 x3 x4 x5 x7 x9 h
noncomputable def FX6_slideOne_51 (σ : Mem) (x1 : Int32) (x2 : Int32) (x3 : Int32) (x4 : Int32) (s0 : Int64) : Option (Int32 × Mem) :=
  nm (((σ.2 2 4) ||| (σ.2 1 10)) ||| (σ.2 1 11)) fun x_46 =>
  FX6_slideOne_78 FU σ x1 x2 x3 x4 s0 x_46 (0 : Int32)
set_option maxHeartbeats 4000000 in
set_option maxRecDepth 100000 in
theorem jX6_slideOne_51 {X : CX} {out : Int32 × Mem} (hE : Ends X SX (some (.int out.1)) out.2) (σ : Mem) (x1 : Int32) (x2 : Int32) (x3 : Int32) (x4 : Int32) (s0 : Int64) (h : FX6_slideOne_51 σ x1 x2 x3 x4 s0 = some out) : J X SX mX6_slideOne σ 51 [(0, .ref (xad X 2)), (1, .int x1), (2, .int x2), (3, .int x3), (4, .int x4)] [.long s0] := by
  refine r_lstoreV [(5, .long s0), (0, .ref (xad X 2)), (1, .int x1), (2, .int x2), (3, .int x3), (4, .int x4)] dX6_slideOne_51 rfl (show 5 + 1 < 11 by decide) rfl ?_
  refine r_aload_n 1 dX6_slideOne_53 rfl rfl rfl ?_
  refine r_getL fg_RX6_66 rfl rfl dX6_slideOne_54 rfl ?_
  refine r_aload_n 1 dX6_slideOne_57 rfl rfl rfl ?_
  refine r_getR fg_RX6_21 rfl rfl dX6_slideOne_58 rfl ?_
  refine r_getL fg_RX6_78 rfl rfl dX6_slideOne_61 rfl ?_
  refine r_lor dX6_slideOne_64 rfl ?_
  refine r_aload_n 1 dX6_slideOne_65 rfl rfl rfl ?_
  refine r_getR fg_RX6_21 rfl rfl dX6_slideOne_66 rfl ?_
  refine r_getL fg_RX6_81 rfl rfl dX6_slideOne_69 rfl ?_
  refine r_lor dX6_slideOne_72 rfl ?_
  refine r_lstore (fun x_46 => [(7, .long x_46), (5, .long s0), (0, .ref (xad X 2)), (1, .int x1), (2, .int x2), (3, .int x3), (4, .int x4)]) dX6_slideOne_73 rfl (show 7 + 1 < 11 by decide) (fun _ => rfl) h (fun x_46 h => ?_)
  refine r_iconst dX6_slideOne_75 rfl ki_0 ?_
  refine r_istoreV [(9, .int (0 : Int32)), (7, .long x_46), (5, .long s0), (0, .ref (xad X 2)), (1, .int x1), (2, .int x2), (3, .int x3), (4, .int x4)] dX6_slideOne_76 rfl (show 9 < 11 by decide) rfl ?_
  refine r_sub [3, 4, 5, 6, 7, 2, 1, 0] rfl ?_
  exact lX6_slideOne_78 hE FU σ x1 x2 x3 x4 s0 x_46 (0 : Int32) h
noncomputable def FX6_slideOne (σ : Mem) (a1 : Int32) (a2 : Int32) : Option (Int32 × Mem) :=
  bi (FX1_hasBlock σ a1) fun r48 σ47 =>
  if r48 = 0 then
  (some ((-1 : Int32), σ47))
  else
  (bi (FX1_kindOf σ47 a1) fun r50 σ49 =>
  rd a1 6 fun j51 =>
  nm (σ49.1 22 j51) fun x_52 =>
  if r50 = (2 : Int32) then
  (FX6_slideOne_51 σ49 a1 a2 r50 x_52 (0 : Int64))
  else
  (FX6_slideOne_51 σ49 a1 a2 r50 x_52 ((σ49.2 1 9) ||| (σ49.2 2 5))))
set_option maxHeartbeats 4000000 in
set_option maxRecDepth 100000 in
theorem eX6_slideOne {X : CX} {out : Int32 × Mem} (hE : Ends X SX (some (.int out.1)) out.2) (σ : Mem) (a1 : Int32) (a2 : Int32) (h : FX6_slideOne σ a1 a2 = some out) : J X SX mX6_slideOne σ 0 [(0, .ref (xad X 2)), (1, .int a1), (2, .int a2)] [] := by
  refine r_aload_n 0 dX6_slideOne_0 rfl rfl rfl ?_
  refine r_getR fg_RX6_21 rfl rfl dX6_slideOne_1 rfl ?_
  refine r_iload_n 1 dX6_slideOne_4 rfl rfl rfl ?_
  obtain ⟨r48, σ47, hc, h⟩ := bi_of h
  refine r_callV [.int a1] [] [.int r48]  (coX1_hasBlock σ a1 r48 σ47 hc) mv_RX6_42 (by decide) rfl rfl rfl rfl rfl (Nat.le_of_ble_eq_true rfl) rfl dX6_slideOne_5 rfl ?_
  refine r_if_ne dX6_slideOne_8 rfl rfl h (fun c h => ?_) (fun c h => ?_)
  · refine r_aload_n 0 dX6_slideOne_13 rfl rfl rfl ?_
    refine r_getR fg_RX6_21 rfl rfl dX6_slideOne_14 rfl ?_
    refine r_iload_n 1 dX6_slideOne_17 rfl rfl rfl ?_
    obtain ⟨r50, σ49, hc, h⟩ := bi_of h
    refine r_callV [.int a1] [] [.int r50]  (coX1_kindOf σ47 a1 r50 σ49 hc) mv_RX6_68 (by decide) rfl rfl rfl rfl rfl (Nat.le_of_ble_eq_true rfl) rfl dX6_slideOne_18 rfl ?_
    refine r_istoreV_n [(3, .int r50), (0, .ref (xad X 2)), (1, .int a1), (2, .int a2)] dX6_slideOne_21 rfl rfl (show 3 < 11 by decide) rfl ?_
    refine r_aload_n 1 dX6_slideOne_22 rfl rfl rfl ?_
    refine r_getR fg_RX6_9 rfl rfl dX6_slideOne_23 rfl ?_
    refine r_iload_n 2 dX6_slideOne_26 rfl rfl rfl ?_
    refine r_iald rfl dX6_slideOne_27 rfl h (fun j51 h => ?_)
    refine r_istore (fun x_52 => [(4, .int x_52), (3, .int r50), (0, .ref (xad X 2)), (1, .int a1), (2, .int a2)]) dX6_slideOne_28 rfl (show 4 < 11 by decide) (fun _ => rfl) h (fun x_52 h => ?_)
    refine r_iload_n 1 dX6_slideOne_30 rfl rfl rfl ?_
    refine r_iconst dX6_slideOne_31 rfl ki_2 ?_
    refine r_icmp_ne dX6_slideOne_32 rfl rfl h (fun c h => ?_) (fun c h => ?_)
    · refine r_aload_n 2 dX6_slideOne_39 rfl rfl rfl ?_
      refine r_getR fg_RX6_21 rfl rfl dX6_slideOne_40 rfl ?_
      refine r_getL fg_RX6_72 rfl rfl dX6_slideOne_43 rfl ?_
      refine r_aload_n 2 dX6_slideOne_46 rfl rfl rfl ?_
      refine r_getL fg_RX6_75 rfl rfl dX6_slideOne_47 rfl ?_
      refine r_lor dX6_slideOne_50 rfl ?_
      refine r_sub [2, 3, 4, 1, 0] rfl ?_
      exact jX6_slideOne_51 hE σ49 a1 a2 r50 x_52 ((σ49.2 1 9) ||| (σ49.2 2 5)) h
    · refine r_lconst dX6_slideOne_35 rfl kl_0 ?_
      refine r_goto dX6_slideOne_36 rfl ?_
      refine r_sub [2, 3, 4, 1, 0] rfl ?_
      exact jX6_slideOne_51 hE σ49 a1 a2 r50 x_52 (0 : Int64) h
  · refine r_iconst dX6_slideOne_11 rfl ki_m1 ?_
    exact r_iret rfl dX6_slideOne_12 h hE
theorem coX6_slideOne (σ : Mem) (a1 : Int32) (a2 : Int32) (r : Int32) (σ2 : Mem) (h : FX6_slideOne σ a1 a2 = some (r, σ2)) : Con SX 3 yX6_slideOne cX6_slideOne 11 (some .int) (fun ad => [.ref (ad 2), .int a1, .int a2]) σ (fun _ => some (.int r)) σ2 :=
  con_of (by decide +kernel) (fun _ => Nat.le_of_ble_eq_true rfl) (fun X hE => eX6_slideOne (out := (r, σ2)) hE σ a1 a2 h)
-- IceYard$Slider goes
abbrev mX6_goes : MD := (cX6_goes, RX6, 7, (some .boolean), 4)
noncomputable def FX6_goes_92 (σ : Mem) : Option (Int32 × Mem) :=
  if (lg_cmp (σ.2 2 7) (0 : Int64)) = 0 then
  (rz (0 : Int32) σ)
  else
  (rz (1 : Int32) σ)
set_option maxHeartbeats 4000000 in
set_option maxRecDepth 100000 in
theorem jX6_goes_92 {X : CX} {out : Int32 × Mem} (hE : Ends X SX (some (.int out.1)) out.2) (σ : Mem) (h : FX6_goes_92 σ = some out) : J X SX mX6_goes σ 92 [(0, .ref (xad X 2))] [] := by
  refine r_aload_n 0 dX6_goes_92 rfl rfl rfl ?_
  refine r_getL fg_RX6_32 rfl rfl dX6_goes_93 rfl ?_
  refine r_lconst dX6_goes_96 rfl kl_0 ?_
  refine r_lcmp dX6_goes_97 rfl ?_
  refine r_if_eq dX6_goes_98 rfl rfl h (fun c h => ?_) (fun c h => ?_)
  · refine r_iconst dX6_goes_105 rfl ki_0 ?_
    exact r_zret rfl dX6_goes_106 h hE
  · refine r_iconst dX6_goes_101 rfl ki_1 ?_
    refine r_goto dX6_goes_102 rfl ?_
    exact r_zret rfl dX6_goes_106 h hE
noncomputable def BX6_goes_64 (rl64 : Mem → Int32 → Int32 → Int32 → Option (Int32 × Mem)) (σ : Mem) (x4 : Int32) (x5 : Int32) (x6 : Int32) : Option (Int32 × Mem) :=
  if (6 : Int32) ≤ x6 then
  (FX6_goes_92 σ)
  else
  (if x5 < 0 then
  (FX6_goes_92 σ)
  else
  (bi (FX6_slideOne σ x5 x4) fun r13 σ12 =>
  nm (x6 + (1 : Int32)) fun x_14 =>
  rl64 σ12 x4 r13 x_14))
set_option maxHeartbeats 4000000 in
set_option maxRecDepth 100000 in
theorem jX6_goes_64 {X : CX} {out : Int32 × Mem} (hE : Ends X SX (some (.int out.1)) out.2) (rl64 : Mem → Int32 → Int32 → Int32 → Option (Int32 × Mem)) (hr64 : ∀ (σ : Mem) (x4 : Int32) (x5 : Int32) (x6 : Int32), rl64 σ x4 x5 x6 = some out → J X SX mX6_goes σ 64 [(0, .ref (xad X 2)), (4, .int x4), (5, .int x5), (6, .int x6)] []) (σ : Mem) (x4 : Int32) (x5 : Int32) (x6 : Int32) (h : BX6_goes_64 rl64 σ x4 x5 x6 = some out) : J X SX mX6_goes σ 64 [(0, .ref (xad X 2)), (4, .int x4), (5, .int x5), (6, .int x6)] [] := by
  refine r_iload 3 dX6_goes_64 rfl rfl ?_
  refine r_bipush dX6_goes_66 rfl kb_6 ?_
  refine r_icmp_ge dX6_goes_68 rfl rfl h (fun c h => ?_) (fun c h => ?_)
  · refine r_sub [0] rfl ?_
    exact jX6_goes_92 hE σ h
  · refine r_iload 2 dX6_goes_71 rfl rfl ?_
    refine r_if_lt dX6_goes_73 rfl rfl h (fun c h => ?_) (fun c h => ?_)
    · refine r_sub [0] rfl ?_
      exact jX6_goes_92 hE σ h
    · refine r_aload_n 0 dX6_goes_76 rfl rfl rfl ?_
      refine r_iload 2 dX6_goes_77 rfl rfl ?_
      refine r_iload 1 dX6_goes_79 rfl rfl ?_
      obtain ⟨r13, σ12, hc, h⟩ := bi_of h
      refine r_callV [.int x5, .int x4] [] [.int r13]  (coX6_slideOne σ x5 x4 r13 σ12 hc) mv_RX6_48 (by decide) rfl rfl rfl rfl rfl (Nat.le_of_ble_eq_true rfl) rfl dX6_goes_81 rfl ?_
      refine r_istoreV [(5, .int r13), (0, .ref (xad X 2)), (4, .int x4), (6, .int x6)] dX6_goes_84 rfl (show 5 < 7 by decide) rfl ?_
      refine r_iinc 3 (fun x_14 => [(6, .int x_14), (5, .int r13), (0, .ref (xad X 2)), (4, .int x4)]) dX6_goes_86 rfl rfl ki_1 (show 6 < 7 by decide) (fun _ => rfl) h (fun x_14 h => ?_)
      refine r_goto dX6_goes_89 rfl ?_
      refine r_sub [2, 3, 1, 0] rfl ?_
      exact hr64 σ12 x4 r13 x_14 h
noncomputable def FX6_goes_64 (n : Nat) : Mem → Int32 → Int32 → Int32 → Option (Int32 × Mem) :=
  Nat.rec (fun _ _ _ _ => none) (fun _ ih => BX6_goes_64 ih) n
theorem lX6_goes_64 {X : CX} {out : Int32 × Mem} (hE : Ends X SX (some (.int out.1)) out.2) : ∀ (n : Nat) (σ : Mem) (x4 : Int32) (x5 : Int32) (x6 : Int32), FX6_goes_64 n σ x4 x5 x6 = some out → J X SX mX6_goes σ 64 [(0, .ref (xad X 2)), (4, .int x4), (5, .int x5), (6, .int x6)] [] := by
  intro n
  induction n with
  | zero => intro σ x4 x5 x6 h; exact nn h
  | succ n ih => intro σ x4 x5 x6 h; exact jX6_goes_64 hE (FX6_goes_64 n) ih σ x4 x5 x6 h
noncomputable def FX6_goes_14 (σ : Mem) (x1 : Int64) (x3 : Int32) (x4 : Int32) : Option (Int32 × Mem) :=
  nm (setL σ 2 6 x1) fun σ15 =>
  nm (setL σ15 2 7 (0 : Int64)) fun σ16 =>
  nm (setI σ16 2 8 (-1 : Int32)) fun σ17 =>
  nm (setI σ17 2 9 (-1 : Int32)) fun σ18 =>
  bi (FX1_hasBlock σ18 x3) fun r20 σ19 =>
  if r20 = 0 then
  (rz (0 : Int32) σ19)
  else
  (rd x3 6 fun j21 =>
  if (σ19.1 22 j21) < (36 : Int32) then
  (FX6_goes_64 FU σ19 x4 x3 (0 : Int32))
  else
  (rz (0 : Int32) σ19))
set_option maxHeartbeats 4000000 in
set_option maxRecDepth 100000 in
theorem jX6_goes_14 {X : CX} {out : Int32 × Mem} (hE : Ends X SX (some (.int out.1)) out.2) (σ : Mem) (x1 : Int64) (x3 : Int32) (x4 : Int32) (h : FX6_goes_14 σ x1 x3 x4 = some out) : J X SX mX6_goes σ 14 [(0, .ref (xad X 2)), (1, .long x1), (3, .int x3), (4, .int x4)] [] := by
  refine r_aload_n 0 dX6_goes_14 rfl rfl rfl ?_
  refine r_lload_n 1 dX6_goes_15 rfl rfl rfl ?_
  refine r_putL fp_RX6_29 rfl rfl dX6_goes_16 rfl h (fun σ15 h => ?_)
  refine r_aload_n 0 dX6_goes_19 rfl rfl rfl ?_
  refine r_lconst dX6_goes_20 rfl kl_0 ?_
  refine r_putL fp_RX6_32 rfl rfl dX6_goes_21 rfl h (fun σ16 h => ?_)
  refine r_aload_n 0 dX6_goes_24 rfl rfl rfl ?_
  refine r_iconst dX6_goes_25 rfl ki_m1 ?_
  refine r_putI fp_RX6_35 rfl rfl dX6_goes_26 rfl h (fun σ17 h => ?_)
  refine r_aload_n 0 dX6_goes_29 rfl rfl rfl ?_
  refine r_iconst dX6_goes_30 rfl ki_m1 ?_
  refine r_putI fp_RX6_39 rfl rfl dX6_goes_31 rfl h (fun σ18 h => ?_)
  refine r_aload_n 0 dX6_goes_34 rfl rfl rfl ?_
  refine r_getR fg_RX6_21 rfl rfl dX6_goes_35 rfl ?_
  refine r_iload_n 2 dX6_goes_38 rfl rfl rfl ?_
  obtain ⟨r20, σ19, hc, h⟩ := bi_of h
  refine r_callV [.int x3] [] [.int r20]  (coX1_hasBlock σ18 x3 r20 σ19 hc) mv_RX6_42 (by decide) rfl rfl rfl rfl rfl (Nat.le_of_ble_eq_true rfl) rfl dX6_goes_39 rfl ?_
  refine r_if_eq dX6_goes_42 rfl rfl h (fun c h => ?_) (fun c h => ?_)
  · refine r_iconst dX6_goes_56 rfl ki_0 ?_
    exact r_zret rfl dX6_goes_57 h hE
  · refine r_aload_n 0 dX6_goes_45 rfl rfl rfl ?_
    refine r_getR fg_RX6_9 rfl rfl dX6_goes_46 rfl ?_
    refine r_iload_n 2 dX6_goes_49 rfl rfl rfl ?_
    refine r_iald rfl dX6_goes_50 rfl h (fun j21 h => ?_)
    refine r_bipush dX6_goes_51 rfl kb_36 ?_
    refine r_icmp_lt dX6_goes_53 rfl rfl h (fun c h => ?_) (fun c h => ?_)
    · refine r_iload_n 2 dX6_goes_58 rfl rfl rfl ?_
      refine r_istoreV [(5, .int x3), (0, .ref (xad X 2)), (1, .long x1), (3, .int x3), (4, .int x4)] dX6_goes_59 rfl (show 5 < 7 by decide) rfl ?_
      refine r_iconst dX6_goes_61 rfl ki_0 ?_
      refine r_istoreV [(6, .int (0 : Int32)), (5, .int x3), (0, .ref (xad X 2)), (1, .long x1), (3, .int x3), (4, .int x4)] dX6_goes_62 rfl (show 6 < 7 by decide) rfl ?_
      refine r_sub [2, 5, 1, 0] rfl ?_
      exact lX6_goes_64 hE FU σ19 x4 x3 (0 : Int32) h
    · refine r_iconst dX6_goes_56 rfl ki_0 ?_
      exact r_zret rfl dX6_goes_57 h hE
noncomputable def FX6_goes (σ : Mem) (a1 : Int64) (a3 : Int32) (a4 : Int32) : Option (Int32 × Mem) :=
  if (lg_cmp a1 (σ.2 2 2)) = 0 then
  (FX6_goes_14 σ a1 a3 a4)
  else
  (bv (FX6_load σ a1) fun σ22 =>
  FX6_goes_14 σ22 a1 a3 a4)
set_option maxHeartbeats 4000000 in
set_option maxRecDepth 100000 in
theorem eX6_goes {X : CX} {out : Int32 × Mem} (hE : Ends X SX (some (.int out.1)) out.2) (σ : Mem) (a1 : Int64) (a3 : Int32) (a4 : Int32) (h : FX6_goes σ a1 a3 a4 = some out) : J X SX mX6_goes σ 0 [(0, .ref (xad X 2)), (1, .long a1), (3, .int a3), (4, .int a4)] [] := by
  refine r_lload_n 1 dX6_goes_0 rfl rfl rfl ?_
  refine r_aload_n 0 dX6_goes_1 rfl rfl rfl ?_
  refine r_getL fg_RX6_17 rfl rfl dX6_goes_2 rfl ?_
  refine r_lcmp dX6_goes_5 rfl ?_
  refine r_if_eq dX6_goes_6 rfl rfl h (fun c h => ?_) (fun c h => ?_)
  · exact jX6_goes_14 hE σ a1 a3 a4 h
  · refine r_aload_n 0 dX6_goes_9 rfl rfl rfl ?_
    refine r_lload_n 1 dX6_goes_10 rfl rfl rfl ?_
    obtain ⟨σ22, hc, h⟩ := bv_of h
    refine r_callV [.long a1] [] []  (coX6_load σ a1 σ22 hc) mv_RX6_25 (by decide) rfl rfl rfl rfl rfl (Nat.le_of_ble_eq_true rfl) rfl dX6_goes_11 rfl ?_
    exact jX6_goes_14 hE σ22 a1 a3 a4 h
theorem coX6_goes (σ : Mem) (a1 : Int64) (a3 : Int32) (a4 : Int32) (r : Int32) (σ2 : Mem) (h : FX6_goes σ a1 a3 a4 = some (r, σ2)) : Con SX 4 yX6_goes cX6_goes 7 (some .boolean) (fun ad => [.ref (ad 2), .long a1, .int a3, .int a4]) σ (fun _ => some (.int r)) σ2 :=
  con_of (by decide +kernel) (fun _ => Nat.le_of_ble_eq_true rfl) (fun X hE => eX6_goes (out := (r, σ2)) hE σ a1 a3 a4 h)

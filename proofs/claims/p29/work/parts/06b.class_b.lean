-- IceYard$Slider slideOne
abbrev mX6_slideOne : MD := (cX6_slideOne, RX6, 11, (some .int), 3)
noncomputable def FX6_slideOne_114 (σ : Mem) (x1 : Int32) (x3 : Int32) (x4 : Int32) (x10 : Int32) : Option (Int32 × Mem) :=
  bi (FX8_withPlace σ (σ.2 2 6) x1 x4) fun r28 σ27 =>
  nm (setL σ27 2 6 r28) fun σ29 =>
  if x10 < 0 then
  (some ((-1 : Int32), σ29))
  else
  (if x3 < (1 : Int32) then
  (some ((-1 : Int32), σ29))
  else
  (bi (FX6_blockIn σ29 x10) fun r31 σ30 =>
  some (r31, σ30)))
set_option maxHeartbeats 4000000 in
set_option maxRecDepth 100000 in
theorem jX6_slideOne_114 {X : CX} {out : Int32 × Mem} (hE : Ends X SX (some (.int out.1)) out.2) (σ : Mem) (x1 : Int32) (x3 : Int32) (x4 : Int32) (x10 : Int32) (h : FX6_slideOne_114 σ x1 x3 x4 x10 = some out) : J X SX mX6_slideOne σ 114 [(0, .ref (xad X 2)), (1, .int x1), (3, .int x3), (4, .int x4), (10, .int x10)] [] := by
  refine r_aload_n 0 dX6_slideOne_114 rfl rfl rfl ?_
  refine r_aload_n 0 dX6_slideOne_115 rfl rfl rfl ?_
  refine r_getL fg_RX6_29 rfl rfl dX6_slideOne_116 rfl ?_
  refine r_iload_n 1 dX6_slideOne_119 rfl rfl rfl ?_
  refine r_iload 3 dX6_slideOne_120 rfl rfl ?_
  obtain ⟨r28, σ27, hc, h⟩ := bi_of h
  refine r_callN [.ref (xad X 2)] [.long r28, .ref (xad X 2)]  (coX8_withPlace σ (σ.2 2 6) x1 x4 r28 σ27 hc) mn_RX6_91 (by decide) rfl rfl (Nat.le_of_ble_eq_true rfl) rfl dX6_slideOne_122 rfl ?_
  refine r_putL fp_RX6_29 rfl rfl dX6_slideOne_125 rfl h (fun σ29 h => ?_)
  refine r_iload 4 dX6_slideOne_128 rfl rfl ?_
  refine r_if_lt dX6_slideOne_130 rfl rfl h (fun c h => ?_) (fun c h => ?_)
  · refine r_iconst dX6_slideOne_147 rfl ki_m1 ?_
    exact r_iret rfl dX6_slideOne_148 h hE
  · refine r_iload_n 2 dX6_slideOne_133 rfl rfl rfl ?_
    refine r_iconst dX6_slideOne_134 rfl ki_1 ?_
    refine r_icmp_lt dX6_slideOne_135 rfl rfl h (fun c h => ?_) (fun c h => ?_)
    · refine r_iconst dX6_slideOne_147 rfl ki_m1 ?_
      exact r_iret rfl dX6_slideOne_148 h hE
    · refine r_aload_n 0 dX6_slideOne_138 rfl rfl rfl ?_
      refine r_iload 4 dX6_slideOne_139 rfl rfl ?_
      obtain ⟨r31, σ30, hc, h⟩ := bi_of h
      refine r_callV [.int x10] [] [.int r31]  (coX6_blockIn σ29 x10 r31 σ30 hc) mv_RX6_95 (by decide) rfl rfl rfl rfl rfl (Nat.le_of_ble_eq_true rfl) rfl dX6_slideOne_141 rfl ?_
      refine r_goto dX6_slideOne_144 rfl ?_
      exact r_iret rfl dX6_slideOne_148 h hE
noncomputable def BX6_slideOne_78 (rl78 : Mem → Int32 → Int32 → Int32 → Int32 → Int64 → Int64 → Int32 → Option (Int32 × Mem)) (σ : Mem) (x1 : Int32) (x2 : Int32) (x3 : Int32) (x4 : Int32) (x5 : Int64) (x7 : Int64) (x9 : Int32) : Option (Int32 × Mem) :=
  if (36 : Int32) ≤ x9 then
  (some ((-1 : Int32), σ))
  else
  (bi (FX1_wayFrom σ x4 x2) fun r33 σ32 =>
  if r33 < 0 then
  (FX6_slideOne_114 σ32 x1 x3 x4 r33)
  else
  (bi (FX8_has σ32 (σ32.2 2 3) r33) fun r35 σ34 =>
  if r35 = 0 then
  (nm (setL σ34 2 7 ((σ34.2 2 7) ||| ((1 : Int64) <<< ((r33).toInt64 &&& 63)))) fun σ36 =>
  bi (FX8_has σ36 x7 r33) fun r38 σ37 =>
  if r38 = 0 then
  (bi (FX8_has σ37 x5 r33) fun r40 σ39 =>
  if r40 = 0 then
  (nm (x9 + (1 : Int32)) fun x_41 =>
  rl78 σ39 x1 x2 x3 r33 x5 x7 x_41)
  else
  (bi (FX8_withPlace σ39 (σ39.2 2 6) x1 r33) fun r43 σ42 =>
  nm (setL σ42 2 6 r43) fun σ44 =>
  some ((-1 : Int32), σ44)))
  else
  (bv (FX6_leave σ37 x1 r33) fun σ45 =>
  some ((-1 : Int32), σ45)))
  else
  (FX6_slideOne_114 σ34 x1 x3 x4 r33)))
set_option maxHeartbeats 4000000 in
set_option maxRecDepth 100000 in
theorem jX6_slideOne_78 {X : CX} {out : Int32 × Mem} (hE : Ends X SX (some (.int out.1)) out.2) (rl78 : Mem → Int32 → Int32 → Int32 → Int32 → Int64 → Int64 → Int32 → Option (Int32 × Mem)) (hr78 : ∀ (σ : Mem) (x1 : Int32) (x2 : Int32) (x3 : Int32) (x4 : Int32) (x5 : Int64) (x7 : Int64) (x9 : Int32), rl78 σ x1 x2 x3 x4 x5 x7 x9 = some out → J X SX mX6_slideOne σ 78 [(0, .ref (xad X 2)), (1, .int x1), (2, .int x2), (3, .int x3), (4, .int x4), (5, .long x5), (7, .long x7), (9, .int x9)] []) (σ : Mem) (x1 : Int32) (x2 : Int32) (x3 : Int32) (x4 : Int32) (x5 : Int64) (x7 : Int64) (x9 : Int32) (h : BX6_slideOne_78 rl78 σ x1 x2 x3 x4 x5 x7 x9 = some out) : J X SX mX6_slideOne σ 78 [(0, .ref (xad X 2)), (1, .int x1), (2, .int x2), (3, .int x3), (4, .int x4), (5, .long x5), (7, .long x7), (9, .int x9)] [] := by
  refine r_iload 7 dX6_slideOne_78 rfl rfl ?_
  refine r_bipush dX6_slideOne_80 rfl kb_36 ?_
  refine r_icmp_ge dX6_slideOne_82 rfl rfl h (fun c h => ?_) (fun c h => ?_)
  · refine r_iconst dX6_slideOne_217 rfl ki_m1 ?_
    exact r_iret rfl dX6_slideOne_218 h hE
  · refine r_aload_n 0 dX6_slideOne_85 rfl rfl rfl ?_
    refine r_getR fg_RX6_21 rfl rfl dX6_slideOne_86 rfl ?_
    refine r_iload 4 dX6_slideOne_89 rfl rfl ?_
    refine r_iload_n 2 dX6_slideOne_91 rfl rfl rfl ?_
    obtain ⟨r33, σ32, hc, h⟩ := bi_of h
    refine r_callV [.int x4, .int x2] [] [.int r33]  (coX1_wayFrom σ x4 x2 r33 σ32 hc) mv_RX6_84 (by decide) rfl rfl rfl rfl rfl (Nat.le_of_ble_eq_true rfl) rfl dX6_slideOne_92 rfl ?_
    refine r_istoreV [(10, .int r33), (0, .ref (xad X 2)), (1, .int x1), (2, .int x2), (3, .int x3), (4, .int x4), (5, .long x5), (7, .long x7), (9, .int x9)] dX6_slideOne_95 rfl (show 10 < 11 by decide) rfl ?_
    refine r_iload 0 dX6_slideOne_97 rfl rfl ?_
    refine r_if_lt dX6_slideOne_99 rfl rfl h (fun c h => ?_) (fun c h => ?_)
    · refine r_sub [1, 2, 4, 5, 0] rfl ?_
      exact jX6_slideOne_114 hE σ32 x1 x3 x4 r33 h
    · refine r_aload_n 1 dX6_slideOne_102 rfl rfl rfl ?_
      refine r_getL fg_RX6_52 rfl rfl dX6_slideOne_103 rfl ?_
      refine r_iload 0 dX6_slideOne_106 rfl rfl ?_
      obtain ⟨r35, σ34, hc, h⟩ := bi_of h
      refine r_callN [] [.int r35]  (coX8_has σ32 (σ32.2 2 3) r33 r35 σ34 hc) mn_RX6_87 (by decide) rfl rfl (Nat.le_of_ble_eq_true rfl) rfl dX6_slideOne_108 rfl ?_
      refine r_if_eq dX6_slideOne_111 rfl rfl h (fun c h => ?_) (fun c h => ?_)
      · refine r_iload 0 dX6_slideOne_149 rfl rfl ?_
        refine r_istoreV [(4, .int r33), (10, .int r33), (0, .ref (xad X 2)), (1, .int x1), (2, .int x2), (3, .int x3), (5, .long x5), (7, .long x7), (9, .int x9)] dX6_slideOne_151 rfl (show 4 < 11 by decide) rfl ?_
        refine r_aload_n 2 dX6_slideOne_153 rfl rfl rfl ?_
        refine r_dup dX6_slideOne_154 rfl rfl ?_
        refine r_getL fg_RX6_32 rfl rfl dX6_slideOne_155 rfl ?_
        refine r_lconst dX6_slideOne_158 rfl kl_1 ?_
        refine r_iload 0 dX6_slideOne_159 rfl rfl ?_
        refine r_lshl dX6_slideOne_161 rfl ?_
        refine r_lor dX6_slideOne_162 rfl ?_
        refine r_putL fp_RX6_32 rfl rfl dX6_slideOne_163 rfl h (fun σ36 h => ?_)
        refine r_lload 7 dX6_slideOne_166 rfl rfl ?_
        refine r_iload 0 dX6_slideOne_168 rfl rfl ?_
        obtain ⟨r38, σ37, hc, h⟩ := bi_of h
        refine r_callN [] [.int r38]  (coX8_has σ36 x7 r33 r38 σ37 hc) mn_RX6_87 (by decide) rfl rfl (Nat.le_of_ble_eq_true rfl) rfl dX6_slideOne_170 rfl ?_
        refine r_if_eq dX6_slideOne_173 rfl rfl h (fun c h => ?_) (fun c h => ?_)
        · refine r_lload 6 dX6_slideOne_185 rfl rfl ?_
          refine r_iload 0 dX6_slideOne_187 rfl rfl ?_
          obtain ⟨r40, σ39, hc, h⟩ := bi_of h
          refine r_callN [] [.int r40]  (coX8_has σ37 x5 r33 r40 σ39 hc) mn_RX6_87 (by decide) rfl rfl (Nat.le_of_ble_eq_true rfl) rfl dX6_slideOne_189 rfl ?_
          refine r_if_eq dX6_slideOne_192 rfl rfl h (fun c h => ?_) (fun c h => ?_)
          · refine r_iinc 8 (fun x_41 => [(9, .int x_41), (4, .int r33), (10, .int r33), (0, .ref (xad X 2)), (1, .int x1), (2, .int x2), (3, .int x3), (5, .long x5), (7, .long x7)]) dX6_slideOne_211 rfl rfl ki_1 (show 9 < 11 by decide) (fun _ => rfl) h (fun x_41 h => ?_)
            refine r_goto dX6_slideOne_214 rfl ?_
            refine r_sub [3, 4, 5, 6, 1, 7, 8, 0] rfl ?_
            exact hr78 σ39 x1 x2 x3 r33 x5 x7 x_41 h
          · refine r_aload_n 2 dX6_slideOne_195 rfl rfl rfl ?_
            refine r_aload_n 2 dX6_slideOne_196 rfl rfl rfl ?_
            refine r_getL fg_RX6_29 rfl rfl dX6_slideOne_197 rfl ?_
            refine r_iload_n 3 dX6_slideOne_200 rfl rfl rfl ?_
            refine r_iload 0 dX6_slideOne_201 rfl rfl ?_
            obtain ⟨r43, σ42, hc, h⟩ := bi_of h
            refine r_callN [.ref (xad X 2)] [.long r43, .ref (xad X 2)]  (coX8_withPlace σ39 (σ39.2 2 6) x1 r33 r43 σ42 hc) mn_RX6_91 (by decide) rfl rfl (Nat.le_of_ble_eq_true rfl) rfl dX6_slideOne_203 rfl ?_
            refine r_putL fp_RX6_29 rfl rfl dX6_slideOne_206 rfl h (fun σ44 h => ?_)
            refine r_iconst dX6_slideOne_209 rfl ki_m1 ?_
            exact r_iret rfl dX6_slideOne_210 h hE
        · refine r_aload_n 2 dX6_slideOne_176 rfl rfl rfl ?_
          refine r_iload_n 3 dX6_slideOne_177 rfl rfl rfl ?_
          refine r_iload 0 dX6_slideOne_178 rfl rfl ?_
          obtain ⟨σ45, hc, h⟩ := bv_of h
          refine r_callV [.int x1, .int r33] [] []  (coX6_leave σ37 x1 r33 σ45 hc) mv_RX6_98 (by decide) rfl rfl rfl rfl rfl (Nat.le_of_ble_eq_true rfl) rfl dX6_slideOne_180 rfl ?_
          refine r_iconst dX6_slideOne_183 rfl ki_m1 ?_
          exact r_iret rfl dX6_slideOne_184 h hE
      · refine r_sub [1, 2, 4, 5, 0] rfl ?_
        exact jX6_slideOne_114 hE σ34 x1 x3 x4 r33 h
noncomputable def FX6_slideOne_78 (n : Nat) : Mem → Int32 → Int32 → Int32 → Int32 → Int64 → Int64 → Int32 → Option (Int32 × Mem) :=
  Nat.rec (fun _ _ _ _ _ _ _ _ => none) (fun _ ih => BX6_slideOne_78 ih) n
theorem lX6_slideOne_78 {X : CX} {out : Int32 × Mem} (hE : Ends X SX (some (.int out.1)) out.2) : ∀ (n : Nat) (σ : Mem) (x1 : Int32) (x2 : Int32) (x3 : Int32) (x4 : Int32) (x5 : Int64) (x7 : Int64) (x9 : Int32), FX6_slideOne_78 n σ x1 x2 x3 x4 x5 x7 x9 = some out → J X SX mX6_slideOne σ 78 [(0, .ref (xad X 2)), (1, .int x1), (2, .int x2), (3, .int x3), (4, .int x4), (5, .long x5), (7, .long x7), (9, .int x9)] [] := by
  intro n
  induction n with
  | zero => intro σ x1 x2 x3 x4 x5 x7 x9 h; exact nn h
  | succ n ih => intro σ x1 x2 x3 x4 x5 x7 x9 h; exact jX6_slideOne_78 hE (FX6_slideOne_78 n) ih σ x1 x2 x3 x4 x5 x7 x9 h
noncomputable def FX6_slideOne_51 (σ : Mem) (x1 : Int32) (x2 : Int32) (x3 : Int32) (x4 : Int32) (s0 : Int64) : Option (Int32 × Mem) :=
  nm (((σ.2 2 4) ||| (σ.2 1 10)) ||| (σ.2 1 11)) fun x_46 =>
  FX6_slideOne_78 FU σ x1 x2 x3 x4 s0 x_46 (0 : Int32)
set_option maxHeartbeats 4000000 in
set_option maxRecDepth 100000 in
theorem jX6_slideOne_51 {X : CX} {out : Int32 × Mem} (hE : Ends X SX (some (.int out.1)) out.2) (σ : Mem) (x1 : Int32) (x2 : Int32) (x3 : Int32) (x4 : Int32) (s0 : Int64) (h : FX6_slideOne_51 σ x1 x2 x3 x4 s0 = some out) : J X SX mX6_slideOne σ 51 [(0, .ref (xad X 2)), (1, .int x1), (2, .int x2), (3, .int x3), (4, .int x4)] [.long s0] := by
  refine r_lstoreV [(5, .long s0), (0, .ref (xad X 2)), (1, .int x1), (2, .int x2), (3, .int x3), (4, .int x4)] dX6_slideOne_51 rfl (show 5 + 1 < 11 by decide) rfl ?_
  refine r_aload_n 1 dX6_slideOne_53 rfl rfl rfl ?_
  refine r_getL fg_RX6_66 rfl rfl dX6_slideOne_54 rfl ?_
  refine r_aload_n 1 dX6_slideOne_57 rfl rfl rfl ?_
  refine r_getR fg_RX6_21 rfl rfl dX6_slideOne_58 rfl ?_
  refine r_getL fg_RX6_78 rfl rfl dX6_slideOne_61 rfl ?_
  refine r_lor dX6_slideOne_64 rfl ?_
  refine r_aload_n 1 dX6_slideOne_65 rfl rfl rfl ?_
  refine r_getR fg_RX6_21 rfl rfl dX6_slideOne_66 rfl ?_
  refine r_getL fg_RX6_81 rfl rfl dX6_slideOne_69 rfl ?_
  refine r_lor dX6_slideOne_72 rfl ?_
  refine r_lstore (fun x_46 => [(7, .long x_46), (5, .long s0), (0, .ref (xad X 2)), (1, .int x1), (2, .int x2), (3, .int x3), (4, .int x4)]) dX6_slideOne_73 rfl (show 7 + 1 < 11 by decide) (fun _ => rfl) h (fun x_46 h => ?_)
  refine r_iconst dX6_slideOne_75 rfl ki_0 ?_
  refine r_istoreV [(9, .int (0 : Int32)), (7, .long x_46), (5, .long s0), (0, .ref (xad X 2)), (1, .int x1), (2, .int x2), (3, .int x3), (4, .int x4)] dX6_slideOne_76 rfl (show 9 < 11 by decide) rfl ?_
  refine r_sub [3, 4, 5, 6, 7, 2, 1, 0] rfl ?_
  exact lX6_slideOne_78 hE FU σ x1 x2 x3 x4 s0 x_46 (0 : Int32) h
noncomputable def FX6_slideOne (σ : Mem) (a1 : Int32) (a2 : Int32) : Option (Int32 × Mem) :=
  bi (FX1_hasBlock σ a1) fun r48 σ47 =>
  if r48 = 0 then
  (some ((-1 : Int32), σ47))
  else
  (bi (FX1_kindOf σ47 a1) fun r50 σ49 =>
  rd a1 6 fun j51 =>
  nm (σ49.1 22 j51) fun x_52 =>
  if r50 = (2 : Int32) then
  (FX6_slideOne_51 σ49 a1 a2 r50 x_52 (0 : Int64))
  else
  (FX6_slideOne_51 σ49 a1 a2 r50 x_52 ((σ49.2 1 9) ||| (σ49.2 2 5))))
set_option maxHeartbeats 4000000 in
set_option maxRecDepth 100000 in
theorem eX6_slideOne {X : CX} {out : Int32 × Mem} (hE : Ends X SX (some (.int out.1)) out.2) (σ : Mem) (a1 : Int32) (a2 : Int32) (h : FX6_slideOne σ a1 a2 = some out) : J X SX mX6_slideOne σ 0 [(0, .ref (xad X 2)), (1, .int a1), (2, .int a2)] [] := by
  refine r_aload_n 0 dX6_slideOne_0 rfl rfl rfl ?_
  refine r_getR fg_RX6_21 rfl rfl dX6_slideOne_1 rfl ?_
  refine r_iload_n 1 dX6_slideOne_4 rfl rfl rfl ?_
  obtain ⟨r48, σ47, hc, h⟩ := bi_of h
  refine r_callV [.int a1] [] [.int r48]  (coX1_hasBlock σ a1 r48 σ47 hc) mv_RX6_42 (by decide) rfl rfl rfl rfl rfl (Nat.le_of_ble_eq_true rfl) rfl dX6_slideOne_5 rfl ?_
  refine r_if_ne dX6_slideOne_8 rfl rfl h (fun c h => ?_) (fun c h => ?_)
  · refine r_aload_n 0 dX6_slideOne_13 rfl rfl rfl ?_
    refine r_getR fg_RX6_21 rfl rfl dX6_slideOne_14 rfl ?_
    refine r_iload_n 1 dX6_slideOne_17 rfl rfl rfl ?_
    obtain ⟨r50, σ49, hc, h⟩ := bi_of h
    refine r_callV [.int a1] [] [.int r50]  (coX1_kindOf σ47 a1 r50 σ49 hc) mv_RX6_68 (by decide) rfl rfl rfl rfl rfl (Nat.le_of_ble_eq_true rfl) rfl dX6_slideOne_18 rfl ?_
    refine r_istoreV_n [(3, .int r50), (0, .ref (xad X 2)), (1, .int a1), (2, .int a2)] dX6_slideOne_21 rfl rfl (show 3 < 11 by decide) rfl ?_
    refine r_aload_n 1 dX6_slideOne_22 rfl rfl rfl ?_
    refine r_getR fg_RX6_9 rfl rfl dX6_slideOne_23 rfl ?_
    refine r_iload_n 2 dX6_slideOne_26 rfl rfl rfl ?_
    refine r_iald rfl dX6_slideOne_27 rfl h (fun j51 h => ?_)
    refine r_istore (fun x_52 => [(4, .int x_52), (3, .int r50), (0, .ref (xad X 2)), (1, .int a1), (2, .int a2)]) dX6_slideOne_28 rfl (show 4 < 11 by decide) (fun _ => rfl) h (fun x_52 h => ?_)
    refine r_iload_n 1 dX6_slideOne_30 rfl rfl rfl ?_
    refine r_iconst dX6_slideOne_31 rfl ki_2 ?_
    refine r_icmp_ne dX6_slideOne_32 rfl rfl h (fun c h => ?_) (fun c h => ?_)
    · refine r_aload_n 2 dX6_slideOne_39 rfl rfl rfl ?_
      refine r_getR fg_RX6_21 rfl rfl dX6_slideOne_40 rfl ?_
      refine r_getL fg_RX6_72 rfl rfl dX6_slideOne_43 rfl ?_
      refine r_aload_n 2 dX6_slideOne_46 rfl rfl rfl ?_
      refine r_getL fg_RX6_75 rfl rfl dX6_slideOne_47 rfl ?_
      refine r_lor dX6_slideOne_50 rfl ?_
      refine r_sub [2, 3, 4, 1, 0] rfl ?_
      exact jX6_slideOne_51 hE σ49 a1 a2 r50 x_52 ((σ49.2 1 9) ||| (σ49.2 2 5)) h
    · refine r_lconst dX6_slideOne_35 rfl kl_0 ?_
      refine r_goto dX6_slideOne_36 rfl ?_
      refine r_sub [2, 3, 4, 1, 0] rfl ?_
      exact jX6_slideOne_51 hE σ49 a1 a2 r50 x_52 (0 : Int64) h
  · refine r_iconst dX6_slideOne_11 rfl ki_m1 ?_
    exact r_iret rfl dX6_slideOne_12 h hE
theorem coX6_slideOne (σ : Mem) (a1 : Int32) (a2 : Int32) (r : Int32) (σ2 : Mem) (h : FX6_slideOne σ a1 a2 = some (r, σ2)) : Con SX 3 yX6_slideOne cX6_slideOne 11 (some .int) (fun ad => [.ref (ad 2), .int a1, .int a2]) σ (fun _ => some (.int r)) σ2 :=
  con_of (by decide +kernel) (fun _ => Nat.le_of_ble_eq_true rfl) (fun X hE => eX6_slideOne (out := (r, σ2)) hE σ a1 a2 h)
-- IceYard$Slider goes
abbrev mX6_goes : MD := (cX6_goes, RX6, 7, (some .boolean), 4)
noncomputable def FX6_goes_92 (σ : Mem) : Option (Int32 × Mem) :=
  if (lg_cmp (σ.2 2 7) (0 : Int64)) = 0 then
  (rz (0 : Int32) σ)
  else
  (rz (1 : Int32) σ)
set_option maxHeartbeats 4000000 in
set_option maxRecDepth 100000 in
theorem jX6_goes_92 {X : CX} {out : Int32 × Mem} (hE : Ends X SX (some (.int out.1)) out.2) (σ : Mem) (h : FX6_goes_92 σ = some out) : J X SX mX6_goes σ 92 [(0, .ref (xad X 2))] [] := by
  refine r_aload_n 0 dX6_goes_92 rfl rfl rfl ?_
  refine r_getL fg_RX6_32 rfl rfl dX6_goes_93 rfl ?_
  refine r_lconst dX6_goes_96 rfl kl_0 ?_
  refine r_lcmp dX6_goes_97 rfl ?_
  refine r_if_eq dX6_goes_98 rfl rfl h (fun c h => ?_) (fun c h => ?_)
  · refine r_iconst dX6_goes_105 rfl ki_0 ?_
    exact r_zret rfl dX6_goes_106 h hE
  · refine r_iconst dX6_goes_101 rfl ki_1 ?_
    refine r_goto dX6_goes_102 rfl ?_
    exact r_zret rfl dX6_goes_106 h hE
noncomputable def BX6_goes_64 (rl64 : Mem → Int32 → Int32 → Int32 → Option (Int32 × Mem)) (σ : Mem) (x4 : Int32) (x5 : Int32) (x6 : Int32) : Option (Int32 × Mem) :=
  if (6 : Int32) ≤ x6 then
  (FX6_goes_92 σ)
  else
  (if x5 < 0 then
  (FX6_goes_92 σ)
  else
  (bi (FX6_slideOne σ x5 x4) fun r13 σ12 =>
  nm (x6 + (1 : Int32)) fun x_14 =>
  rl64 σ12 x4 r13 x_14))
set_option maxHeartbeats 4000000 in
set_option maxRecDepth 100000 in
theorem jX6_goes_64 {X : CX} {out : Int32 × Mem} (hE : Ends X SX (some (.int out.1)) out.2) (rl64 : Mem → Int32 → Int32 → Int32 → Option (Int32 × Mem)) (hr64 : ∀ (σ : Mem) (x4 : Int32) (x5 : Int32) (x6 : Int32), rl64 σ x4 x5 x6 = some out → J X SX mX6_goes σ 64 [(0, .ref (xad X 2)), (4, .int x4), (5, .int x5), (6, .int x6)] []) (σ : Mem) (x4 : Int32) (x5 : Int32) (x6 : Int32) (h : BX6_goes_64 rl64 σ x4 x5 x6 = some out) : J X SX mX6_goes σ 64 [(0, .ref (xad X 2)), (4, .int x4), (5, .int x5), (6, .int x6)] [] := by
  refine r_iload 3 dX6_goes_64 rfl rfl ?_
  refine r_bipush dX6_goes_66 rfl kb_6 ?_
  refine r_icmp_ge dX6_goes_68 rfl rfl h (fun c h => ?_) (fun c h => ?_)
  · refine r_sub [0] rfl ?_
    exact jX6_goes_92 hE σ h
  · refine r_iload 2 dX6_goes_71 rfl rfl ?_
    refine r_if_lt dX6_goes_73 rfl rfl h (fun c h => ?_) (fun c h => ?_)
    · refine r_sub [0] rfl ?_
      exact jX6_goes_92 hE σ h
    · refine r_aload_n 0 dX6_goes_76 rfl rfl rfl ?_
      refine r_iload 2 dX6_goes_77 rfl rfl ?_
      refine r_iload 1 dX6_goes_79 rfl rfl ?_
      obtain ⟨r13, σ12, hc, h⟩ := bi_of h
      refine r_callV [.int x5, .int x4] [] [.int r13]  (coX6_slideOne σ x5 x4 r13 σ12 hc) mv_RX6_48 (by decide) rfl rfl rfl rfl rfl (Nat.le_of_ble_eq_true rfl) rfl dX6_goes_81 rfl ?_
      refine r_istoreV [(5, .int r13), (0, .ref (xad X 2)), (4, .int x4), (6, .int x6)] dX6_goes_84 rfl (show 5 < 7 by decide) rfl ?_
      refine r_iinc 3 (fun x_14 => [(6, .int x_14), (5, .int r13), (0, .ref (xad X 2)), (4, .int x4)]) dX6_goes_86 rfl rfl ki_1 (show 6 < 7 by decide) (fun _ => rfl) h (fun x_14 h => ?_)
      refine r_goto dX6_goes_89 rfl ?_
      refine r_sub [2, 3, 1, 0] rfl ?_
      exact hr64 σ12 x4 r13 x_14 h
noncomputable def FX6_goes_64 (n : Nat) : Mem → Int32 → Int32 → Int32 → Option (Int32 × Mem) :=
  Nat.rec (fun _ _ _ _ => none) (fun _ ih => BX6_goes_64 ih) n
theorem lX6_goes_64 {X : CX} {out : Int32 × Mem} (hE : Ends X SX (some (.int out.1)) out.2) : ∀ (n : Nat) (σ : Mem) (x4 : Int32) (x5 : Int32) (x6 : Int32), FX6_goes_64 n σ x4 x5 x6 = some out → J X SX mX6_goes σ 64 [(0, .ref (xad X 2)), (4, .int x4), (5, .int x5), (6, .int x6)] [] := by
  intro n
  induction n with
  | zero => intro σ x4 x5 x6 h; exact nn h
  | succ n ih => intro σ x4 x5 x6 h; exact jX6_goes_64 hE (FX6_goes_64 n) ih σ x4 x5 x6 h
noncomputable def FX6_goes_14 (σ : Mem) (x1 : Int64) (x3 : Int32) (x4 : Int32) : Option (Int32 × Mem) :=
  nm (setL σ 2 6 x1) fun σ15 =>
  nm (setL σ15 2 7 (0 : Int64)) fun σ16 =>
  nm (setI σ16 2 8 (-1 : Int32)) fun σ17 =>
  nm (setI σ17 2 9 (-1 : Int32)) fun σ18 =>
  bi (FX1_hasBlock σ18 x3) fun r20 σ19 =>
  if r20 = 0 then
  (rz (0 : Int32) σ19)
  else
  (rd x3 6 fun j21 =>
  if (σ19.1 22 j21) < (36 : Int32) then
  (FX6_goes_64 FU σ19 x4 x3 (0 : Int32))
  else
  (rz (0 : Int32) σ19))
set_option maxHeartbeats 4000000 in
set_option maxRecDepth 100000 in
theorem jX6_goes_14 {X : CX} {out : Int32 × Mem} (hE : Ends X SX (some (.int out.1)) out.2) (σ : Mem) (x1 : Int64) (x3 : Int32) (x4 : Int32) (h : FX6_goes_14 σ x1 x3 x4 = some out) : J X SX mX6_goes σ 14 [(0, .ref (xad X 2)), (1, .long x1), (3, .int x3), (4, .int x4)] [] := by
  refine r_aload_n 0 dX6_goes_14 rfl rfl rfl ?_
  refine r_lload_n 1 dX6_goes_15 rfl rfl rfl ?_
  refine r_putL fp_RX6_29 rfl rfl dX6_goes_16 rfl h (fun σ15 h => ?_)
  refine r_aload_n 0 dX6_goes_19 rfl rfl rfl ?_
  refine r_lconst dX6_goes_20 rfl kl_0 ?_
  refine r_putL fp_RX6_32 rfl rfl dX6_goes_21 rfl h (fun σ16 h => ?_)
  refine r_aload_n 0 dX6_goes_24 rfl rfl rfl ?_
  refine r_iconst dX6_goes_25 rfl ki_m1 ?_
  refine r_putI fp_RX6_35 rfl rfl dX6_goes_26 rfl h (fun σ17 h => ?_)
  refine r_aload_n 0 dX6_goes_29 rfl rfl rfl ?_
  refine r_iconst dX6_goes_30 rfl ki_m1 ?_
  refine r_putI fp_RX6_39 rfl rfl dX6_goes_31 rfl h (fun σ18 h => ?_)
  refine r_aload_n 0 dX6_goes_34 rfl rfl rfl ?_
  refine r_getR fg_RX6_21 rfl rfl dX6_goes_35 rfl ?_
  refine r_iload_n 2 dX6_goes_38 rfl rfl rfl ?_
  obtain ⟨r20, σ19, hc, h⟩ := bi_of h
  refine r_callV [.int x3] [] [.int r20]  (coX1_hasBlock σ18 x3 r20 σ19 hc) mv_RX6_42 (by decide) rfl rfl rfl rfl rfl (Nat.le_of_ble_eq_true rfl) rfl dX6_goes_39 rfl ?_
  refine r_if_eq dX6_goes_42 rfl rfl h (fun c h => ?_) (fun c h => ?_)
  · refine r_iconst dX6_goes_56 rfl ki_0 ?_
    exact r_zret rfl dX6_goes_57 h hE
  · refine r_aload_n 0 dX6_goes_45 rfl rfl rfl ?_
    refine r_getR fg_RX6_9 rfl rfl dX6_goes_46 rfl ?_
    refine r_iload_n 2 dX6_goes_49 rfl rfl rfl ?_
    refine r_iald rfl dX6_goes_50 rfl h (fun j21 h => ?_)
    refine r_bipush dX6_goes_51 rfl kb_36 ?_
    refine r_icmp_lt dX6_goes_53 rfl rfl h (fun c h => ?_) (fun c h => ?_)
    · refine r_iload_n 2 dX6_goes_58 rfl rfl rfl ?_
      refine r_istoreV [(5, .int x3), (0, .ref (xad X 2)), (1, .long x1), (3, .int x3), (4, .int x4)] dX6_goes_59 rfl (show 5 < 7 by decide) rfl ?_
      refine r_iconst dX6_goes_61 rfl ki_0 ?_
      refine r_istoreV [(6, .int (0 : Int32)), (5, .int x3), (0, .ref (xad X 2)), (1, .long x1), (3, .int x3), (4, .int x4)] dX6_goes_62 rfl (show 6 < 7 by decide) rfl ?_
      refine r_sub [2, 5, 1, 0] rfl ?_
      exact lX6_goes_64 hE FU σ19 x4 x3 (0 : Int32) h
    · refine r_iconst dX6_goes_56 rfl ki_0 ?_
      exact r_zret rfl dX6_goes_57 h hE
noncomputable def FX6_goes (σ : Mem) (a1 : Int64) (a3 : Int32) (a4 : Int32) : Option (Int32 × Mem) :=
  if (lg_cmp a1 (σ.2 2 2)) = 0 then
  (FX6_goes_14 σ a1 a3 a4)
  else
  (bv (FX6_load σ a1) fun σ22 =>
  FX6_goes_14 σ22 a1 a3 a4)
set_option maxHeartbeats 4000000 in
set_option maxRecDepth 100000 in
theorem eX6_goes {X : CX} {out : Int32 × Mem} (hE : Ends X SX (some (.int out.1)) out.2) (σ : Mem) (a1 : Int64) (a3 : Int32) (a4 : Int32) (h : FX6_goes σ a1 a3 a4 = some out) : J X SX mX6_goes σ 0 [(0, .ref (xad X 2)), (1, .long a1), (3, .int a3), (4, .int a4)] [] := by
  refine r_lload_n 1 dX6_goes_0 rfl rfl rfl ?_
  refine r_aload_n 0 dX6_goes_1 rfl rfl rfl ?_
  refine r_getL fg_RX6_17 rfl rfl dX6_goes_2 rfl ?_
  refine r_lcmp dX6_goes_5 rfl ?_
  refine r_if_eq dX6_goes_6 rfl rfl h (fun c h => ?_) (fun c h => ?_)
  · exact jX6_goes_14 hE σ a1 a3 a4 h
  · refine r_aload_n 0 dX6_goes_9 rfl rfl rfl ?_
    refine r_lload_n 1 dX6_goes_10 rfl rfl rfl ?_
    obtain ⟨σ22, hc, h⟩ := bv_of h
    refine r_callV [.long a1] [] []  (coX6_load σ a1 σ22 hc) mv_RX6_25 (by decide) rfl rfl rfl rfl rfl (Nat.le_of_ble_eq_true rfl) rfl dX6_goes_11 rfl ?_
    exact jX6_goes_14 hE σ22 a1 a3 a4 h
theorem coX6_goes (σ : Mem) (a1 : Int64) (a3 : Int32) (a4 : Int32) (r : Int32) (σ2 : Mem) (h : FX6_goes σ a1 a3 a4 = some (r, σ2)) : Con SX 4 yX6_goes cX6_goes 7 (some .boolean) (fun ad => [.ref (ad 2), .long a1, .int a3, .int a4]) σ (fun _ => some (.int r)) σ2 :=
  con_of (by decide +kernel) (fun _ => Nat.le_of_ble_eq_true rfl) (fun X hE => eX6_goes (out := (r, σ2)) hE σ a1 a3 a4 h)
-- IceYard$Search goOnFrom
abbrev mX4_goOnFrom : MD := (cX4_goOnFrom, RX4, 7, (some .int), 5)
noncomputable def BX4_goOnFrom_38 (rl23 : Mem → Int32 → Int32 → Int64 → Int32 → Option (Int32 × Mem)) (rl38 : Mem → Int32 → Int32 → Int64 → Int32 → Int32 → Option (Int32 × Mem)) (σ : Mem) (x1 : Int32) (x2 : Int32) (x3 : Int64) (x5 : Int32) (x6 : Int32) : Option (Int32 × Mem) :=
  if (4 : Int32) ≤ x6 then
  (nm (x5 + (1 : Int32)) fun x_15 =>
  rl23 σ x1 x2 x3 x_15)
  else
  (bi (FX6_goes σ x3 x5 x6) fun r17 σ16 =>
  if r17 = 0 then
  (nm (x6 + (1 : Int32)) fun x_26 =>
  rl38 σ16 x1 x2 x3 x5 x_26)
  else
  (if (σ16.1 2 9) = x2 then
  (bi (FX8_pushNumber σ16 x5 x6) fun r24 σ23 =>
  bv (FX4_writeRow σ23 x1 r24) fun σ25 =>
  some ((σ25.1 3 8), σ25))
  else
  (bi (FX8_pushNumber σ16 x5 x6) fun r19 σ18 =>
  bi (FX4_note σ18 (σ16.2 2 6) x1 r19) fun r21 σ20 =>
  if r21 = 0 then
  (some ((-5 : Int32), σ20))
  else
  (nm (x6 + (1 : Int32)) fun x_22 =>
  rl38 σ20 x1 x2 x3 x5 x_22))))
set_option maxHeartbeats 4000000 in
set_option maxRecDepth 100000 in
theorem jX4_goOnFrom_38 {X : CX} {out : Int32 × Mem} (hE : Ends X SX (some (.int out.1)) out.2) (rl23 : Mem → Int32 → Int32 → Int64 → Int32 → Option (Int32 × Mem)) (hr23 : ∀ (σ : Mem) (x1 : Int32) (x2 : Int32) (x3 : Int64) (x5 : Int32), rl23 σ x1 x2 x3 x5 = some out → J X SX mX4_goOnFrom σ 23 [(0, .ref (xad X 3)), (1, .int x1), (2, .int x2), (3, .long x3), (5, .int x5)] []) (rl38 : Mem → Int32 → Int32 → Int64 → Int32 → Int32 → Option (Int32 × Mem)) (hr38 : ∀ (σ : Mem) (x1 : Int32) (x2 : Int32) (x3 : Int64) (x5 : Int32) (x6 : Int32), rl38 σ x1 x2 x3 x5 x6 = some out → J X SX mX4_goOnFrom σ 38 [(0, .ref (xad X 3)), (1, .int x1), (2, .int x2), (3, .long x3), (5, .int x5), (6, .int x6)] []) (σ : Mem) (x1 : Int32) (x2 : Int32) (x3 : Int64) (x5 : Int32) (x6 : Int32) (h : BX4_goOnFrom_38 rl23 rl38 σ x1 x2 x3 x5 x6 = some out) : J X SX mX4_goOnFrom σ 38 [(0, .ref (xad X 3)), (1, .int x1), (2, .int x2), (3, .long x3), (5, .int x5), (6, .int x6)] [] := by
  refine r_iload 5 dX4_goOnFrom_38 rfl rfl ?_
  refine r_iconst dX4_goOnFrom_40 rfl ki_4 ?_
  refine r_icmp_ge dX4_goOnFrom_41 rfl rfl h (fun c h => ?_) (fun c h => ?_)
  · refine r_iinc 4 (fun x_15 => [(5, .int x_15), (0, .ref (xad X 3)), (1, .int x1), (2, .int x2), (3, .long x3), (6, .int x6)]) dX4_goOnFrom_121 rfl rfl ki_1 (show 5 < 7 by decide) (fun _ => rfl) h (fun x_15 h => ?_)
    refine r_goto dX4_goOnFrom_124 rfl ?_
    refine r_sub [1, 2, 3, 4, 0] rfl ?_
    exact hr23 σ x1 x2 x3 x_15 h
  · refine r_aload_n 0 dX4_goOnFrom_44 rfl rfl rfl ?_
    refine r_getR fg_RX4_32 rfl rfl dX4_goOnFrom_45 rfl ?_
    refine r_lload_n 3 dX4_goOnFrom_48 rfl rfl rfl ?_
    refine r_iload 4 dX4_goOnFrom_49 rfl rfl ?_
    refine r_iload 5 dX4_goOnFrom_51 rfl rfl ?_
    obtain ⟨r17, σ16, hc, h⟩ := bi_of h
    refine r_callV [.long x3, .int x5, .int x6] [] [.int r17]  (coX6_goes σ x3 x5 x6 r17 σ16 hc) mv_RX4_62 (by decide) rfl rfl rfl rfl rfl (Nat.le_of_ble_eq_true rfl) rfl dX4_goOnFrom_53 rfl ?_
    refine r_if_ne dX4_goOnFrom_56 rfl rfl h (fun c h => ?_) (fun c h => ?_)
    · refine r_aload_n 0 dX4_goOnFrom_62 rfl rfl rfl ?_
      refine r_getR fg_RX4_32 rfl rfl dX4_goOnFrom_63 rfl ?_
      refine r_getI fg_RX4_67 rfl rfl dX4_goOnFrom_66 rfl ?_
      refine r_iload_n 2 dX4_goOnFrom_69 rfl rfl rfl ?_
      refine r_icmp_ne dX4_goOnFrom_70 rfl rfl h (fun c h => ?_) (fun c h => ?_)
      · refine r_aload_n 0 dX4_goOnFrom_90 rfl rfl rfl ?_
        refine r_aload_n 0 dX4_goOnFrom_91 rfl rfl rfl ?_
        refine r_getR fg_RX4_32 rfl rfl dX4_goOnFrom_92 rfl ?_
        refine r_getL fg_RX4_77 rfl rfl dX4_goOnFrom_95 rfl ?_
        refine r_iload_n 1 dX4_goOnFrom_98 rfl rfl rfl ?_
        refine r_iload 4 dX4_goOnFrom_99 rfl rfl ?_
        refine r_iload 5 dX4_goOnFrom_101 rfl rfl ?_
        obtain ⟨r19, σ18, hc, h⟩ := bi_of h
        refine r_callN [.int x1, .long (σ16.2 2 6), .ref (xad X 3)] [.int r19, .int x1, .long (σ16.2 2 6), .ref (xad X 3)]  (coX8_pushNumber σ16 x5 x6 r19 σ18 hc) mn_RX4_70 (by decide) rfl rfl (Nat.le_of_ble_eq_true rfl) rfl dX4_goOnFrom_103 rfl ?_
        obtain ⟨r21, σ20, hc, h⟩ := bi_of h
        refine r_callV [.long (σ16.2 2 6), .int x1, .int r19] [] [.int r21]  (coX4_note σ18 (σ16.2 2 6) x1 r19 r21 σ20 hc) mv_RX4_49 (by decide) rfl rfl rfl rfl rfl (Nat.le_of_ble_eq_true rfl) rfl dX4_goOnFrom_106 rfl ?_
        refine r_if_ne dX4_goOnFrom_109 rfl rfl h (fun c h => ?_) (fun c h => ?_)
        · refine r_iinc 5 (fun x_22 => [(6, .int x_22), (0, .ref (xad X 3)), (1, .int x1), (2, .int x2), (3, .long x3), (5, .int x5)]) dX4_goOnFrom_115 rfl rfl ki_1 (show 6 < 7 by decide) (fun _ => rfl) h (fun x_22 h => ?_)
          refine r_goto dX4_goOnFrom_118 rfl ?_
          refine r_sub [1, 2, 3, 4, 5, 0] rfl ?_
          exact hr38 σ20 x1 x2 x3 x5 x_22 h
        · refine r_bipush dX4_goOnFrom_112 rfl kb_m5 ?_
          exact r_iret rfl dX4_goOnFrom_114 h hE
      · refine r_aload_n 0 dX4_goOnFrom_73 rfl rfl rfl ?_
        refine r_iload_n 1 dX4_goOnFrom_74 rfl rfl rfl ?_
        refine r_iload 4 dX4_goOnFrom_75 rfl rfl ?_
        refine r_iload 5 dX4_goOnFrom_77 rfl rfl ?_
        obtain ⟨r24, σ23, hc, h⟩ := bi_of h
        refine r_callN [.int x1, .ref (xad X 3)] [.int r24, .int x1, .ref (xad X 3)]  (coX8_pushNumber σ16 x5 x6 r24 σ23 hc) mn_RX4_70 (by decide) rfl rfl (Nat.le_of_ble_eq_true rfl) rfl dX4_goOnFrom_79 rfl ?_
        obtain ⟨σ25, hc, h⟩ := bv_of h
        refine r_callV [.int x1, .int r24] [] []  (coX4_writeRow σ23 x1 r24 σ25 hc) mv_RX4_73 (by decide) rfl rfl rfl rfl rfl (Nat.le_of_ble_eq_true rfl) rfl dX4_goOnFrom_82 rfl ?_
        refine r_aload_n 0 dX4_goOnFrom_85 rfl rfl rfl ?_
        refine r_getI fg_RX4_46 rfl rfl dX4_goOnFrom_86 rfl ?_
        exact r_iret rfl dX4_goOnFrom_89 h hE
    · refine r_goto dX4_goOnFrom_59 rfl ?_
      refine r_iinc 5 (fun x_26 => [(6, .int x_26), (0, .ref (xad X 3)), (1, .int x1), (2, .int x2), (3, .long x3), (5, .int x5)]) dX4_goOnFrom_115 rfl rfl ki_1 (show 6 < 7 by decide) (fun _ => rfl) h (fun x_26 h => ?_)
      refine r_goto dX4_goOnFrom_118 rfl ?_
      refine r_sub [1, 2, 3, 4, 5, 0] rfl ?_
      exact hr38 σ16 x1 x2 x3 x5 x_26 h
noncomputable def FX4_goOnFrom_38 (rl23 : Mem → Int32 → Int32 → Int64 → Int32 → Option (Int32 × Mem)) (n : Nat) : Mem → Int32 → Int32 → Int64 → Int32 → Int32 → Option (Int32 × Mem) :=
  Nat.rec (fun _ _ _ _ _ _ => none) (fun _ ih => BX4_goOnFrom_38 rl23 ih) n
theorem lX4_goOnFrom_38 {X : CX} {out : Int32 × Mem} (hE : Ends X SX (some (.int out.1)) out.2) (rl23 : Mem → Int32 → Int32 → Int64 → Int32 → Option (Int32 × Mem)) (hr23 : ∀ (σ : Mem) (x1 : Int32) (x2 : Int32) (x3 : Int64) (x5 : Int32), rl23 σ x1 x2 x3 x5 = some out → J X SX mX4_goOnFrom σ 23 [(0, .ref (xad X 3)), (1, .int x1), (2, .int x2), (3, .long x3), (5, .int x5)] []) : ∀ (n : Nat) (σ : Mem) (x1 : Int32) (x2 : Int32) (x3 : Int64) (x5 : Int32) (x6 : Int32), FX4_goOnFrom_38 rl23 n σ x1 x2 x3 x5 x6 = some out → J X SX mX4_goOnFrom σ 38 [(0, .ref (xad X 3)), (1, .int x1), (2, .int x2), (3, .long x3), (5, .int x5), (6, .int x6)] [] := by
  intro n
  induction n with
  | zero => intro σ x1 x2 x3 x5 x6 h; exact nn h
  | succ n ih => intro σ x1 x2 x3 x5 x6 h; exact jX4_goOnFrom_38 hE rl23 hr23 (FX4_goOnFrom_38 rl23 n) ih σ x1 x2 x3 x5 x6 h
noncomputable def BX4_goOnFrom_23 (rl23 : Mem → Int32 → Int32 → Int64 → Int32 → Option (Int32 × Mem)) (σ : Mem) (x1 : Int32) (x2 : Int32) (x3 : Int64) (x5 : Int32) : Option (Int32 × Mem) :=
  if (σ.1 1 6) ≤ x5 then
  (some ((0 : Int32), σ))
  else
  (FX4_goOnFrom_38 rl23 FU σ x1 x2 x3 x5 (0 : Int32))
set_option maxHeartbeats 4000000 in
set_option maxRecDepth 100000 in
theorem jX4_goOnFrom_23 {X : CX} {out : Int32 × Mem} (hE : Ends X SX (some (.int out.1)) out.2) (rl23 : Mem → Int32 → Int32 → Int64 → Int32 → Option (Int32 × Mem)) (hr23 : ∀ (σ : Mem) (x1 : Int32) (x2 : Int32) (x3 : Int64) (x5 : Int32), rl23 σ x1 x2 x3 x5 = some out → J X SX mX4_goOnFrom σ 23 [(0, .ref (xad X 3)), (1, .int x1), (2, .int x2), (3, .long x3), (5, .int x5)] []) (σ : Mem) (x1 : Int32) (x2 : Int32) (x3 : Int64) (x5 : Int32) (h : BX4_goOnFrom_23 rl23 σ x1 x2 x3 x5 = some out) : J X SX mX4_goOnFrom σ 23 [(0, .ref (xad X 3)), (1, .int x1), (2, .int x2), (3, .long x3), (5, .int x5)] [] := by
  refine r_iload 4 dX4_goOnFrom_23 rfl rfl ?_
  refine r_aload_n 0 dX4_goOnFrom_25 rfl rfl rfl ?_
  refine r_getR fg_RX4_28 rfl rfl dX4_goOnFrom_26 rfl ?_
  refine r_getI fg_RX4_57 rfl rfl dX4_goOnFrom_29 rfl ?_
  refine r_icmp_ge dX4_goOnFrom_32 rfl rfl h (fun c h => ?_) (fun c h => ?_)
  · refine r_iconst dX4_goOnFrom_127 rfl ki_0 ?_
    exact r_iret rfl dX4_goOnFrom_128 h hE
  · refine r_iconst dX4_goOnFrom_35 rfl ki_0 ?_
    refine r_istoreV [(6, .int (0 : Int32)), (0, .ref (xad X 3)), (1, .int x1), (2, .int x2), (3, .long x3), (5, .int x5)] dX4_goOnFrom_36 rfl (show 6 < 7 by decide) rfl ?_
    refine r_sub [1, 2, 3, 4, 5, 0] rfl ?_
    exact lX4_goOnFrom_38 hE rl23 hr23 FU σ x1 x2 x3 x5 (0 : Int32) h
noncomputable def FX4_goOnFrom_23 (n : Nat) : Mem → Int32 → Int32 → Int64 → Int32 → Option (Int32 × Mem) :=
  Nat.rec (fun _ _ _ _ _ => none) (fun _ ih => BX4_goOnFrom_23 ih) n
theorem lX4_goOnFrom_23 {X : CX} {out : Int32 × Mem} (hE : Ends X SX (some (.int out.1)) out.2) : ∀ (n : Nat) (σ : Mem) (x1 : Int32) (x2 : Int32) (x3 : Int64) (x5 : Int32), FX4_goOnFrom_23 n σ x1 x2 x3 x5 = some out → J X SX mX4_goOnFrom σ 23 [(0, .ref (xad X 3)), (1, .int x1), (2, .int x2), (3, .long x3), (5, .int x5)] [] := by
  intro n
  induction n with
  | zero => intro σ x1 x2 x3 x5 h; exact nn h
  | succ n ih => intro σ x1 x2 x3 x5 h; exact jX4_goOnFrom_23 hE (FX4_goOnFrom_23 n) ih σ x1 x2 x3 x5 h
noncomputable def FX4_goOnFrom (σ : Mem) (a1 : Int32) (a2 : Int32) : Option (Int32 × Mem) :=
  if a1 < 0 then
  (some ((0 : Int32), σ))
  else
  (if a1 < (1500 : Int32) then
  (rd a1 1500 fun j27 =>
  nm (σ.2 23 j27) fun x_28 =>
  FX4_goOnFrom_23 FU σ a1 a2 x_28 (0 : Int32))
  else
  (some ((0 : Int32), σ)))
set_option maxHeartbeats 4000000 in
set_option maxRecDepth 100000 in
theorem eX4_goOnFrom {X : CX} {out : Int32 × Mem} (hE : Ends X SX (some (.int out.1)) out.2) (σ : Mem) (a1 : Int32) (a2 : Int32) (h : FX4_goOnFrom σ a1 a2 = some out) : J X SX mX4_goOnFrom σ 0 [(0, .ref (xad X 3)), (1, .int a1), (2, .int a2)] [] := by
  refine r_iload_n 1 dX4_goOnFrom_0 rfl rfl rfl ?_
  refine r_if_lt dX4_goOnFrom_1 rfl rfl h (fun c h => ?_) (fun c h => ?_)
  · refine r_iconst dX4_goOnFrom_11 rfl ki_0 ?_
    exact r_iret rfl dX4_goOnFrom_12 h hE
  · refine r_iload_n 1 dX4_goOnFrom_4 rfl rfl rfl ?_
    refine r_sipush dX4_goOnFrom_5 rfl ks_1500 ?_
    refine r_icmp_lt dX4_goOnFrom_8 rfl rfl h (fun c h => ?_) (fun c h => ?_)
    · refine r_aload_n 0 dX4_goOnFrom_13 rfl rfl rfl ?_
      refine r_getR fg_RX4_11 rfl rfl dX4_goOnFrom_14 rfl ?_
      refine r_iload_n 1 dX4_goOnFrom_17 rfl rfl rfl ?_
      refine r_lald rfl dX4_goOnFrom_18 rfl h (fun j27 h => ?_)
      refine r_lstore_n (fun x_28 => [(3, .long x_28), (0, .ref (xad X 3)), (1, .int a1), (2, .int a2)]) dX4_goOnFrom_19 rfl rfl (show 3 + 1 < 7 by decide) (fun _ => rfl) h (fun x_28 h => ?_)
      refine r_iconst dX4_goOnFrom_20 rfl ki_0 ?_
      refine r_istoreV [(5, .int (0 : Int32)), (3, .long x_28), (0, .ref (xad X 3)), (1, .int a1), (2, .int a2)] dX4_goOnFrom_21 rfl (show 5 < 7 by decide) rfl ?_
      refine r_sub [2, 3, 4, 1, 0] rfl ?_
      exact lX4_goOnFrom_23 hE FU σ a1 a2 x_28 (0 : Int32) h
    · refine r_iconst dX4_goOnFrom_11 rfl ki_0 ?_
      exact r_iret rfl dX4_goOnFrom_12 h hE
theorem coX4_goOnFrom (σ : Mem) (a1 : Int32) (a2 : Int32) (r : Int32) (σ2 : Mem) (h : FX4_goOnFrom σ a1 a2 = some (r, σ2)) : Con SX 5 yX4_goOnFrom cX4_goOnFrom 7 (some .int) (fun ad => [.ref (ad 3), .int a1, .int a2]) σ (fun _ => some (.int r)) σ2 :=
  con_of (by decide +kernel) (fun _ => Nat.le_of_ble_eq_true rfl) (fun X hE => eX4_goOnFrom (out := (r, σ2)) hE σ a1 a2 h)
-- IceYard$Search fewestPushes
abbrev mX4_fewestPushes : MD := (cX4_fewestPushes, RX4, 6, (some .int), 6)
noncomputable def BX4_fewestPushes_29 (rl29 : Mem → Int32 → Int32 → Option (Int32 × Mem)) (σ : Mem) (x3 : Int32) (x4 : Int32) : Option (Int32 × Mem) :=
  if (σ.1 3 7) ≤ x4 then
  (some ((-9 : Int32), σ))
  else
  (if (1500 : Int32) ≤ x4 then
  (some ((-9 : Int32), σ))
  else
  (bi (FX4_goOnFrom σ x4 x3) fun r10 σ9 =>
  if r10 = 0 then
  (nm (x4 + (1 : Int32)) fun x_11 =>
  rl29 σ9 x3 x_11)
  else
  (some (r10, σ9))))
set_option maxHeartbeats 4000000 in
set_option maxRecDepth 100000 in
theorem jX4_fewestPushes_29 {X : CX} {out : Int32 × Mem} (hE : Ends X SX (some (.int out.1)) out.2) (rl29 : Mem → Int32 → Int32 → Option (Int32 × Mem)) (hr29 : ∀ (σ : Mem) (x3 : Int32) (x4 : Int32), rl29 σ x3 x4 = some out → J X SX mX4_fewestPushes σ 29 [(0, .ref (xad X 3)), (3, .int x3), (4, .int x4)] []) (σ : Mem) (x3 : Int32) (x4 : Int32) (h : BX4_fewestPushes_29 rl29 σ x3 x4 = some out) : J X SX mX4_fewestPushes σ 29 [(0, .ref (xad X 3)), (3, .int x3), (4, .int x4)] [] := by
  refine r_iload 2 dX4_fewestPushes_29 rfl rfl ?_
  refine r_aload_n 0 dX4_fewestPushes_31 rfl rfl rfl ?_
  refine r_getI fg_RX4_42 rfl rfl dX4_fewestPushes_32 rfl ?_
  refine r_icmp_ge dX4_fewestPushes_35 rfl rfl h (fun c h => ?_) (fun c h => ?_)
  · refine r_bipush dX4_fewestPushes_69 rfl kb_m9 ?_
    exact r_iret rfl dX4_fewestPushes_71 h hE
  · refine r_iload 2 dX4_fewestPushes_38 rfl rfl ?_
    refine r_sipush dX4_fewestPushes_40 rfl ks_1500 ?_
    refine r_icmp_ge dX4_fewestPushes_43 rfl rfl h (fun c h => ?_) (fun c h => ?_)
    · refine r_bipush dX4_fewestPushes_69 rfl kb_m9 ?_
      exact r_iret rfl dX4_fewestPushes_71 h hE
    · refine r_aload_n 0 dX4_fewestPushes_46 rfl rfl rfl ?_
      refine r_iload 2 dX4_fewestPushes_47 rfl rfl ?_
      refine r_iload_n 1 dX4_fewestPushes_49 rfl rfl rfl ?_
      obtain ⟨r10, σ9, hc, h⟩ := bi_of h
      refine r_callV [.int x4, .int x3] [] [.int r10]  (coX4_goOnFrom σ x4 x3 r10 σ9 hc) mv_RX4_53 (by decide) rfl rfl rfl rfl rfl (Nat.le_of_ble_eq_true rfl) rfl dX4_fewestPushes_50 rfl ?_
      refine r_istoreV [(5, .int r10), (0, .ref (xad X 3)), (3, .int x3), (4, .int x4)] dX4_fewestPushes_53 rfl (show 5 < 6 by decide) rfl ?_
      refine r_iload 0 dX4_fewestPushes_55 rfl rfl ?_
      refine r_if_eq dX4_fewestPushes_57 rfl rfl h (fun c h => ?_) (fun c h => ?_)
      · refine r_iinc 3 (fun x_11 => [(4, .int x_11), (5, .int r10), (0, .ref (xad X 3)), (3, .int x3)]) dX4_fewestPushes_63 rfl rfl ki_1 (show 4 < 6 by decide) (fun _ => rfl) h (fun x_11 h => ?_)
        refine r_goto dX4_fewestPushes_66 rfl ?_
        refine r_sub [2, 3, 0] rfl ?_
        exact hr29 σ9 x3 x_11 h
      · refine r_iload 0 dX4_fewestPushes_60 rfl rfl ?_
        exact r_iret rfl dX4_fewestPushes_62 h hE
noncomputable def FX4_fewestPushes_29 (n : Nat) : Mem → Int32 → Int32 → Option (Int32 × Mem) :=
  Nat.rec (fun _ _ _ => none) (fun _ ih => BX4_fewestPushes_29 ih) n
theorem lX4_fewestPushes_29 {X : CX} {out : Int32 × Mem} (hE : Ends X SX (some (.int out.1)) out.2) : ∀ (n : Nat) (σ : Mem) (x3 : Int32) (x4 : Int32), FX4_fewestPushes_29 n σ x3 x4 = some out → J X SX mX4_fewestPushes σ 29 [(0, .ref (xad X 3)), (3, .int x3), (4, .int x4)] [] := by
  intro n
  induction n with
  | zero => intro σ x3 x4 h; exact nn h
  | succ n ih => intro σ x3 x4 h; exact jX4_fewestPushes_29 hE (FX4_fewestPushes_29 n) ih σ x3 x4 h
noncomputable def FX4_fewestPushes (σ : Mem) (a1 : Int64) (a3 : Int32) : Option (Int32 × Mem) :=
  bv (FJ7_fill_53178 27 4096 σ (0 : Int32)) fun σ12 =>
  nm (setI σ12 3 7 (0 : Int32)) fun σ13 =>
  nm (setI σ13 3 8 (0 : Int32)) fun σ14 =>
  bi (FX4_note σ14 a1 (-1 : Int32) (0 : Int32)) fun r16 σ15 =>
  FX4_fewestPushes_29 FU σ15 a3 (0 : Int32)
set_option maxHeartbeats 4000000 in
set_option maxRecDepth 100000 in
theorem eX4_fewestPushes {X : CX} {out : Int32 × Mem} (hE : Ends X SX (some (.int out.1)) out.2) (σ : Mem) (a1 : Int64) (a3 : Int32) (h : FX4_fewestPushes σ a1 a3 = some out) : J X SX mX4_fewestPushes σ 0 [(0, .ref (xad X 3)), (1, .long a1), (3, .int a3)] [] := by
  refine r_aload_n 0 dX4_fewestPushes_0 rfl rfl rfl ?_
  refine r_getR fg_RX4_25 rfl rfl dX4_fewestPushes_1 rfl ?_
  refine r_iconst dX4_fewestPushes_4 rfl ki_0 ?_
  obtain ⟨σ12, hc, h⟩ := bv_of h
  refine r_callS [] []  (coJ7_fill_53178 27 4096 rfl σ (0 : Int32) σ12 hc) ms_RX4_36 (by decide) rfl rfl (Nat.le_of_ble_eq_true rfl) rfl dX4_fewestPushes_5 rfl ?_
  refine r_aload_n 0 dX4_fewestPushes_8 rfl rfl rfl ?_
  refine r_iconst dX4_fewestPushes_9 rfl ki_0 ?_
  refine r_putI fp_RX4_42 rfl rfl dX4_fewestPushes_10 rfl h (fun σ13 h => ?_)
  refine r_aload_n 0 dX4_fewestPushes_13 rfl rfl rfl ?_
  refine r_iconst dX4_fewestPushes_14 rfl ki_0 ?_
  refine r_putI fp_RX4_46 rfl rfl dX4_fewestPushes_15 rfl h (fun σ14 h => ?_)
  refine r_aload_n 0 dX4_fewestPushes_18 rfl rfl rfl ?_
  refine r_lload_n 1 dX4_fewestPushes_19 rfl rfl rfl ?_
  refine r_iconst dX4_fewestPushes_20 rfl ki_m1 ?_
  refine r_iconst dX4_fewestPushes_21 rfl ki_0 ?_
  obtain ⟨r16, σ15, hc, h⟩ := bi_of h
  refine r_callV [.long a1, .int (-1 : Int32), .int (0 : Int32)] [] [.int r16]  (coX4_note σ14 a1 (-1 : Int32) (0 : Int32) r16 σ15 hc) mv_RX4_49 (by decide) rfl rfl rfl rfl rfl (Nat.le_of_ble_eq_true rfl) rfl dX4_fewestPushes_22 rfl ?_
  refine r_pop dX4_fewestPushes_25 rfl rfl ?_
  refine r_iconst dX4_fewestPushes_26 rfl ki_0 ?_
  refine r_istoreV [(4, .int (0 : Int32)), (0, .ref (xad X 3)), (1, .long a1), (3, .int a3)] dX4_fewestPushes_27 rfl (show 4 < 6 by decide) rfl ?_
  refine r_sub [1, 3, 0] rfl ?_
  exact lX4_fewestPushes_29 hE FU σ15 a3 (0 : Int32) h
theorem coX4_fewestPushes (σ : Mem) (a1 : Int64) (a3 : Int32) (r : Int32) (σ2 : Mem) (h : FX4_fewestPushes σ a1 a3 = some (r, σ2)) : Con SX 6 yX4_fewestPushes cX4_fewestPushes 6 (some .int) (fun ad => [.ref (ad 3), .long a1, .int a3]) σ (fun _ => some (.int r)) σ2 :=
  con_of (by decide +kernel) (fun _ => Nat.le_of_ble_eq_true rfl) (fun X hE => eX4_fewestPushes (out := (r, σ2)) hE σ a1 a3 h)
-- IceYard$Search pushAt
abbrev mX4_pushAt : MD := (cX4_pushAt, RX4, 2, (some .int), 1)
noncomputable def FX4_pushAt (σ : Mem) (a1 : Int32) : Option (Int32 × Mem) :=
  if a1 < 0 then
  (some ((-9 : Int32), σ))
  else
  (if (σ.1 3 8) ≤ a1 then
  (some ((-9 : Int32), σ))
  else
  (if (1500 : Int32) ≤ a1 then
  (some ((-9 : Int32), σ))
  else
  (rd a1 1500 fun j2 =>
  some ((σ.1 26 j2), σ))))
set_option maxHeartbeats 4000000 in
set_option maxRecDepth 100000 in
theorem eX4_pushAt {X : CX} {out : Int32 × Mem} (hE : Ends X SX (some (.int out.1)) out.2) (σ : Mem) (a1 : Int32) (h : FX4_pushAt σ a1 = some out) : J X SX mX4_pushAt σ 0 [(0, .ref (xad X 3)), (1, .int a1)] [] := by
  refine r_iload_n 1 dX4_pushAt_0 rfl rfl rfl ?_
  refine r_if_lt dX4_pushAt_1 rfl rfl h (fun c h => ?_) (fun c h => ?_)
  · refine r_bipush dX4_pushAt_30 rfl kb_m9 ?_
    exact r_iret rfl dX4_pushAt_32 h hE
  · refine r_iload_n 1 dX4_pushAt_4 rfl rfl rfl ?_
    refine r_aload_n 0 dX4_pushAt_5 rfl rfl rfl ?_
    refine r_getI fg_RX4_46 rfl rfl dX4_pushAt_6 rfl ?_
    refine r_icmp_ge dX4_pushAt_9 rfl rfl h (fun c h => ?_) (fun c h => ?_)
    · refine r_bipush dX4_pushAt_30 rfl kb_m9 ?_
      exact r_iret rfl dX4_pushAt_32 h hE
    · refine r_iload_n 1 dX4_pushAt_12 rfl rfl rfl ?_
      refine r_aload_n 0 dX4_pushAt_13 rfl rfl rfl ?_
      refine r_getR fg_RX4_22 rfl rfl dX4_pushAt_14 rfl ?_
      refine r_alen rfl (by decide) rfl dX4_pushAt_17 rfl ?_
      refine r_icmp_ge dX4_pushAt_18 rfl rfl h (fun c h => ?_) (fun c h => ?_)
      · refine r_bipush dX4_pushAt_30 rfl kb_m9 ?_
        exact r_iret rfl dX4_pushAt_32 h hE
      · refine r_aload_n 0 dX4_pushAt_21 rfl rfl rfl ?_
        refine r_getR fg_RX4_22 rfl rfl dX4_pushAt_22 rfl ?_
        refine r_iload_n 1 dX4_pushAt_25 rfl rfl rfl ?_
        refine r_iald rfl dX4_pushAt_26 rfl h (fun j2 h => ?_)
        refine r_goto dX4_pushAt_27 rfl ?_
        exact r_iret rfl dX4_pushAt_32 h hE
theorem coX4_pushAt (σ : Mem) (a1 : Int32) (r : Int32) (σ2 : Mem) (h : FX4_pushAt σ a1 = some (r, σ2)) : Con SX 1 yX4_pushAt cX4_pushAt 2 (some .int) (fun ad => [.ref (ad 3), .int a1]) σ (fun _ => some (.int r)) σ2 :=
  con_of (by decide +kernel) (fun _ => Nat.le_of_ble_eq_true rfl) (fun X hE => eX4_pushAt (out := (r, σ2)) hE σ a1 h)
-- IceYard fewest
abbrev mX8_fewest : MD := (cX8_fewest, RX8, 4, (some .int), 7)
noncomputable def FX8_fewest (σ : Mem) (a1 : Int32) (a2 : Int32) : Option (Int32 × Mem) :=
  bi (FX8_isGate σ a1) fun r8 σ7 =>
  if r8 = 0 then
  (some ((-1 : Int32), σ7))
  else
  (if (-1 : Int32) ≤ a2 then
  (bi (FX4_fewestPushes σ7 (σ7.2 0 9) a1) fun r10 σ9 =>
  if r10 < 0 then
  (some (r10, σ9))
  else
  (if a2 = (-1 : Int32) then
  (some (r10, σ9))
  else
  (bi (FX4_pushAt σ9 a2) fun r12 σ11 =>
  some (r12, σ11))))
  else
  (some ((-1 : Int32), σ7)))
set_option maxHeartbeats 4000000 in
set_option maxRecDepth 100000 in
theorem eX8_fewest {X : CX} {out : Int32 × Mem} (hE : Ends X SX (some (.int out.1)) out.2) (σ : Mem) (a1 : Int32) (a2 : Int32) (h : FX8_fewest σ a1 a2 = some out) : J X SX mX8_fewest σ 0 [(0, .ref (xad X 0)), (1, .int a1), (2, .int a2)] [] := by
  refine r_iload_n 1 dX8_fewest_0 rfl rfl rfl ?_
  obtain ⟨r8, σ7, hc, h⟩ := bi_of h
  refine r_callS [] [.int r8]  (coX8_isGate σ a1 r8 σ7 hc) ms_RX8_169 (by decide) rfl rfl (Nat.le_of_ble_eq_true rfl) rfl dX8_fewest_1 rfl ?_
  refine r_if_eq dX8_fewest_4 rfl rfl h (fun c h => ?_) (fun c h => ?_)
  · refine r_iconst dX8_fewest_12 rfl ki_m1 ?_
    exact r_iret rfl dX8_fewest_13 h hE
  · refine r_iload_n 2 dX8_fewest_7 rfl rfl rfl ?_
    refine r_iconst dX8_fewest_8 rfl ki_m1 ?_
    refine r_icmp_ge dX8_fewest_9 rfl rfl h (fun c h => ?_) (fun c h => ?_)
    · refine r_aload_n 0 dX8_fewest_14 rfl rfl rfl ?_
      refine r_getR fg_RX8_32 rfl rfl dX8_fewest_15 rfl ?_
      refine r_aload_n 0 dX8_fewest_18 rfl rfl rfl ?_
      refine r_getL fg_RX8_119 rfl rfl dX8_fewest_19 rfl ?_
      refine r_iload_n 1 dX8_fewest_22 rfl rfl rfl ?_
      obtain ⟨r10, σ9, hc, h⟩ := bi_of h
      refine r_callV [.long (σ7.2 0 9), .int a1] [] [.int r10]  (coX4_fewestPushes σ7 (σ7.2 0 9) a1 r10 σ9 hc) mv_RX8_172 (by decide) rfl rfl rfl rfl rfl (Nat.le_of_ble_eq_true rfl) rfl dX8_fewest_23 rfl ?_
      refine r_istoreV_n [(3, .int r10), (0, .ref (xad X 0)), (1, .int a1), (2, .int a2)] dX8_fewest_26 rfl rfl (show 3 < 4 by decide) rfl ?_
      refine r_iload_n 0 dX8_fewest_27 rfl rfl rfl ?_
      refine r_if_lt dX8_fewest_28 rfl rfl h (fun c h => ?_) (fun c h => ?_)
      · refine r_iload_n 0 dX8_fewest_36 rfl rfl rfl ?_
        refine r_goto dX8_fewest_37 rfl ?_
        exact r_iret rfl dX8_fewest_48 h hE
      · refine r_iload_n 3 dX8_fewest_31 rfl rfl rfl ?_
        refine r_iconst dX8_fewest_32 rfl ki_m1 ?_
        refine r_icmp_ne dX8_fewest_33 rfl rfl h (fun c h => ?_) (fun c h => ?_)
        · refine r_aload_n 1 dX8_fewest_40 rfl rfl rfl ?_
          refine r_getR fg_RX8_32 rfl rfl dX8_fewest_41 rfl ?_
          refine r_iload_n 3 dX8_fewest_44 rfl rfl rfl ?_
          obtain ⟨r12, σ11, hc, h⟩ := bi_of h
          refine r_callV [.int a2] [] [.int r12]  (coX4_pushAt σ9 a2 r12 σ11 hc) mv_RX8_175 (by decide) rfl rfl rfl rfl rfl (Nat.le_of_ble_eq_true rfl) rfl dX8_fewest_45 rfl ?_
          exact r_iret rfl dX8_fewest_48 h hE
        · refine r_iload_n 0 dX8_fewest_36 rfl rfl rfl ?_
          refine r_goto dX8_fewest_37 rfl ?_
          exact r_iret rfl dX8_fewest_48 h hE
    · refine r_iconst dX8_fewest_12 rfl ki_m1 ?_
      exact r_iret rfl dX8_fewest_13 h hE
theorem coX8_fewest (σ : Mem) (a1 : Int32) (a2 : Int32) (r : Int32) (σ2 : Mem) (h : FX8_fewest σ a1 a2 = some (r, σ2)) : Con SX 7 yX8_fewest cX8_fewest 4 (some .int) (fun ad => [.ref (ad 0), .int a1, .int a2]) σ (fun _ => some (.int r)) σ2 :=
  con_of (by decide +kernel) (fun _ => Nat.le_of_ble_eq_true rfl) (fun X hE => eX8_fewest (out := (r, σ2)) hE σ a1 a2 h)
-- IceYard$Game winningPush
abbrev mX0_winningPush (dd : Nat) : MD := (cX0_winningPush, RX0, 8, (some .int), dd + 1)
noncomputable def BX0_winningPush_33 (rc : Mem → Int64 → Int32 → Int32 → Option (Int32 × Mem)) (rl18 : Mem → Int64 → Int32 → Int32 → Int32 → Option (Int32 × Mem)) (rl33 : Mem → Int64 → Int32 → Int32 → Int32 → Int32 → Option (Int32 × Mem)) (σ : Mem) (x1 : Int64) (x3 : Int32) (x4 : Int32) (x5 : Int32) (x6 : Int32) : Option (Int32 × Mem) :=
  if (4 : Int32) ≤ x6 then
  (nm (x5 + (1 : Int32)) fun x_15 =>
  rl18 σ x1 x3 x4 x_15)
  else
  (bi (FX6_goes σ x1 x5 x6) fun r17 σ16 =>
  if r17 = 0 then
  (nm (x6 + (1 : Int32)) fun x_28 =>
  rl33 σ16 x1 x3 x4 x5 x_28)
  else
  (nm (σ16.1 2 9) fun x_18 =>
  if x_18 = x3 then
  (bi (FX8_pushNumber σ16 x5 x6) fun r20 σ19 =>
  some (r20, σ19))
  else
  (if 0 ≤ x_18 then
  (nm (x6 + (1 : Int32)) fun x_21 =>
  rl33 σ16 x1 x3 x4 x5 x_21)
  else
  (if x4 ≤ (1 : Int32) then
  (nm (x6 + (1 : Int32)) fun x_22 =>
  rl33 σ16 x1 x3 x4 x5 x_22)
  else
  (bi (rc σ16 (σ16.2 2 6) x3 (x4 - (1 : Int32))) fun r24 σ23 =>
  if r24 = 0 then
  (nm (x6 + (1 : Int32)) fun x_25 =>
  rl33 σ23 x1 x3 x4 x5 x_25)
  else
  (bi (FX8_pushNumber σ23 x5 x6) fun r27 σ26 =>
  some (r27, σ26)))))))
set_option maxHeartbeats 4000000 in
set_option maxRecDepth 100000 in
theorem jX0_winningPush_33 {X : CX} {out : Int32 × Mem} (rc : Mem → Int64 → Int32 → Int32 → Option (Int32 × Mem)) {dd : Nat} (hdd : 4 ≤ dd) (hrc : ∀ (σ : Mem) (a1 : Int64) (a3 : Int32) (a4 : Int32) (r : Int32) (σ2 : Mem), rc σ a1 a3 a4 = some (r, σ2) → Con SX dd yX0_winsWhateverComes cX0_winsWhateverComes 9 (some .boolean) (fun ad => [.ref (ad 4), .long a1, .int a3, .int a4]) σ (fun _ => some (.int r)) σ2) (hE : Ends X SX (some (.int out.1)) out.2) (rl18 : Mem → Int64 → Int32 → Int32 → Int32 → Option (Int32 × Mem)) (hr18 : ∀ (σ : Mem) (x1 : Int64) (x3 : Int32) (x4 : Int32) (x5 : Int32), rl18 σ x1 x3 x4 x5 = some out → J X SX (mX0_winningPush dd) σ 18 [(0, .ref (xad X 4)), (1, .long x1), (3, .int x3), (4, .int x4), (5, .int x5)] []) (rl33 : Mem → Int64 → Int32 → Int32 → Int32 → Int32 → Option (Int32 × Mem)) (hr33 : ∀ (σ : Mem) (x1 : Int64) (x3 : Int32) (x4 : Int32) (x5 : Int32) (x6 : Int32), rl33 σ x1 x3 x4 x5 x6 = some out → J X SX (mX0_winningPush dd) σ 33 [(0, .ref (xad X 4)), (1, .long x1), (3, .int x3), (4, .int x4), (5, .int x5), (6, .int x6)] []) (σ : Mem) (x1 : Int64) (x3 : Int32) (x4 : Int32) (x5 : Int32) (x6 : Int32) (h : BX0_winningPush_33 rc rl18 rl33 σ x1 x3 x4 x5 x6 = some out) : J X SX (mX0_winningPush dd) σ 33 [(0, .ref (xad X 4)), (1, .long x1), (3, .int x3), (4, .int x4), (5, .int x5), (6, .int x6)] [] := by
  refine r_iload 5 dX0_winningPush_33 rfl rfl ?_
  refine r_iconst dX0_winningPush_35 rfl ki_4 ?_
  refine r_icmp_ge dX0_winningPush_36 rfl rfl h (fun c h => ?_) (fun c h => ?_)
  · refine r_iinc 4 (fun x_15 => [(5, .int x_15), (0, .ref (xad X 4)), (1, .long x1), (3, .int x3), (4, .int x4), (6, .int x6)]) dX0_winningPush_116 rfl rfl ki_1 (show 5 < 8 by decide) (fun _ => rfl) h (fun x_15 h => ?_)
    refine r_goto dX0_winningPush_119 rfl ?_
    refine r_sub [1, 2, 3, 4, 0] rfl ?_
    exact hr18 σ x1 x3 x4 x_15 h
  · refine r_aload_n 0 dX0_winningPush_39 rfl rfl rfl ?_
    refine r_getR fg_RX0_19 rfl rfl dX0_winningPush_40 rfl ?_
    refine r_lload_n 1 dX0_winningPush_43 rfl rfl rfl ?_
    refine r_iload 4 dX0_winningPush_44 rfl rfl ?_
    refine r_iload 5 dX0_winningPush_46 rfl rfl ?_
    obtain ⟨r17, σ16, hc, h⟩ := bi_of h
    refine r_callV [.long x1, .int x5, .int x6] [] [.int r17]  (coX6_goes σ x1 x5 x6 r17 σ16 hc) mv_RX0_32 (Nat.lt_succ_of_le (Nat.le_trans (by decide) hdd)) rfl rfl rfl rfl rfl (Nat.le_of_ble_eq_true rfl) rfl dX0_winningPush_48 rfl ?_
    refine r_if_ne dX0_winningPush_51 rfl rfl h (fun c h => ?_) (fun c h => ?_)
    · refine r_aload_n 0 dX0_winningPush_57 rfl rfl rfl ?_
      refine r_getR fg_RX0_19 rfl rfl dX0_winningPush_58 rfl ?_
      refine r_getI fg_RX0_38 rfl rfl dX0_winningPush_61 rfl ?_
      refine r_istore (fun x_18 => [(7, .int x_18), (0, .ref (xad X 4)), (1, .long x1), (3, .int x3), (4, .int x4), (5, .int x5), (6, .int x6)]) dX0_winningPush_64 rfl (show 7 < 8 by decide) (fun _ => rfl) h (fun x_18 h => ?_)
      refine r_iload 0 dX0_winningPush_66 rfl rfl ?_
      refine r_iload_n 3 dX0_winningPush_68 rfl rfl rfl ?_
      refine r_icmp_eq dX0_winningPush_69 rfl rfl h (fun c h => ?_) (fun c h => ?_)
      · refine r_iload 5 dX0_winningPush_102 rfl rfl ?_
        refine r_iload 6 dX0_winningPush_104 rfl rfl ?_
        obtain ⟨r20, σ19, hc, h⟩ := bi_of h
        refine r_callN [] [.int r20]  (coX8_pushNumber σ16 x5 x6 r20 σ19 hc) mn_RX0_48 (Nat.lt_succ_of_le (Nat.le_trans (by decide) hdd)) rfl rfl (Nat.le_of_ble_eq_true rfl) rfl dX0_winningPush_106 rfl ?_
        exact r_iret rfl dX0_winningPush_109 h hE
      · refine r_iload 0 dX0_winningPush_72 rfl rfl ?_
        refine r_if_ge dX0_winningPush_74 rfl rfl h (fun c h => ?_) (fun c h => ?_)
        · refine r_iinc 6 (fun x_21 => [(6, .int x_21), (7, .int x_18), (0, .ref (xad X 4)), (1, .long x1), (3, .int x3), (4, .int x4), (5, .int x5)]) dX0_winningPush_110 rfl rfl ki_1 (show 6 < 8 by decide) (fun _ => rfl) h (fun x_21 h => ?_)
          refine r_goto dX0_winningPush_113 rfl ?_
          refine r_sub [2, 3, 4, 5, 6, 0] rfl ?_
          exact hr33 σ16 x1 x3 x4 x5 x_21 h
        · refine r_iload 4 dX0_winningPush_77 rfl rfl ?_
          refine r_iconst dX0_winningPush_79 rfl ki_1 ?_
          refine r_icmp_le dX0_winningPush_80 rfl rfl h (fun c h => ?_) (fun c h => ?_)
          · refine r_iinc 6 (fun x_22 => [(6, .int x_22), (7, .int x_18), (0, .ref (xad X 4)), (1, .long x1), (3, .int x3), (4, .int x4), (5, .int x5)]) dX0_winningPush_110 rfl rfl ki_1 (show 6 < 8 by decide) (fun _ => rfl) h (fun x_22 h => ?_)
            refine r_goto dX0_winningPush_113 rfl ?_
            refine r_sub [2, 3, 4, 5, 6, 0] rfl ?_
            exact hr33 σ16 x1 x3 x4 x5 x_22 h
          · refine r_aload_n 1 dX0_winningPush_83 rfl rfl rfl ?_
            refine r_aload_n 1 dX0_winningPush_84 rfl rfl rfl ?_
            refine r_getR fg_RX0_19 rfl rfl dX0_winningPush_85 rfl ?_
            refine r_getL fg_RX0_41 rfl rfl dX0_winningPush_88 rfl ?_
            refine r_iload_n 3 dX0_winningPush_91 rfl rfl rfl ?_
            refine r_iload 4 dX0_winningPush_92 rfl rfl ?_
            refine r_iconst dX0_winningPush_94 rfl ki_1 ?_
            refine r_isub dX0_winningPush_95 rfl ?_
            obtain ⟨r24, σ23, hc, h⟩ := bi_of h
            refine r_callV [.long (σ16.2 2 6), .int x3, .int (x4 - (1 : Int32))] [] [.int r24]  (hrc σ16 (σ16.2 2 6) x3 (x4 - (1 : Int32)) r24 σ23 hc) mv_RX0_45 (Nat.lt_succ_self dd) rfl rfl rfl rfl rfl (Nat.le_of_ble_eq_true rfl) rfl dX0_winningPush_96 rfl ?_
            refine r_if_eq dX0_winningPush_99 rfl rfl h (fun c h => ?_) (fun c h => ?_)
            · refine r_iinc 6 (fun x_25 => [(6, .int x_25), (7, .int x_18), (0, .ref (xad X 4)), (1, .long x1), (3, .int x3), (4, .int x4), (5, .int x5)]) dX0_winningPush_110 rfl rfl ki_1 (show 6 < 8 by decide) (fun _ => rfl) h (fun x_25 h => ?_)
              refine r_goto dX0_winningPush_113 rfl ?_
              refine r_sub [2, 3, 4, 5, 6, 0] rfl ?_
              exact hr33 σ23 x1 x3 x4 x5 x_25 h
            · refine r_iload 5 dX0_winningPush_102 rfl rfl ?_
              refine r_iload 6 dX0_winningPush_104 rfl rfl ?_
              obtain ⟨r27, σ26, hc, h⟩ := bi_of h
              refine r_callN [] [.int r27]  (coX8_pushNumber σ23 x5 x6 r27 σ26 hc) mn_RX0_48 (Nat.lt_succ_of_le (Nat.le_trans (by decide) hdd)) rfl rfl (Nat.le_of_ble_eq_true rfl) rfl dX0_winningPush_106 rfl ?_
              exact r_iret rfl dX0_winningPush_109 h hE
    · refine r_goto dX0_winningPush_54 rfl ?_
      refine r_iinc 5 (fun x_28 => [(6, .int x_28), (0, .ref (xad X 4)), (1, .long x1), (3, .int x3), (4, .int x4), (5, .int x5)]) dX0_winningPush_110 rfl rfl ki_1 (show 6 < 8 by decide) (fun _ => rfl) h (fun x_28 h => ?_)
      refine r_goto dX0_winningPush_113 rfl ?_
      refine r_sub [1, 2, 3, 4, 5, 0] rfl ?_
      exact hr33 σ16 x1 x3 x4 x5 x_28 h
noncomputable def FX0_winningPush_33 (rc : Mem → Int64 → Int32 → Int32 → Option (Int32 × Mem)) (rl18 : Mem → Int64 → Int32 → Int32 → Int32 → Option (Int32 × Mem)) (n : Nat) : Mem → Int64 → Int32 → Int32 → Int32 → Int32 → Option (Int32 × Mem) :=
  Nat.rec (fun _ _ _ _ _ _ => none) (fun _ ih => BX0_winningPush_33 rc rl18 ih) n
theorem lX0_winningPush_33 {X : CX} {out : Int32 × Mem} (rc : Mem → Int64 → Int32 → Int32 → Option (Int32 × Mem)) {dd : Nat} (hdd : 4 ≤ dd) (hrc : ∀ (σ : Mem) (a1 : Int64) (a3 : Int32) (a4 : Int32) (r : Int32) (σ2 : Mem), rc σ a1 a3 a4 = some (r, σ2) → Con SX dd yX0_winsWhateverComes cX0_winsWhateverComes 9 (some .boolean) (fun ad => [.ref (ad 4), .long a1, .int a3, .int a4]) σ (fun _ => some (.int r)) σ2) (hE : Ends X SX (some (.int out.1)) out.2) (rl18 : Mem → Int64 → Int32 → Int32 → Int32 → Option (Int32 × Mem)) (hr18 : ∀ (σ : Mem) (x1 : Int64) (x3 : Int32) (x4 : Int32) (x5 : Int32), rl18 σ x1 x3 x4 x5 = some out → J X SX (mX0_winningPush dd) σ 18 [(0, .ref (xad X 4)), (1, .long x1), (3, .int x3), (4, .int x4), (5, .int x5)] []) : ∀ (n : Nat) (σ : Mem) (x1 : Int64) (x3 : Int32) (x4 : Int32) (x5 : Int32) (x6 : Int32), FX0_winningPush_33 rc rl18 n σ x1 x3 x4 x5 x6 = some out → J X SX (mX0_winningPush dd) σ 33 [(0, .ref (xad X 4)), (1, .long x1), (3, .int x3), (4, .int x4), (5, .int x5), (6, .int x6)] [] := by
  intro n
  induction n with
  | zero => intro σ x1 x3 x4 x5 x6 h; exact nn h
  | succ n ih => intro σ x1 x3 x4 x5 x6 h; exact jX0_winningPush_33 rc hdd hrc hE rl18 hr18 (FX0_winningPush_33 rc rl18 n) ih σ x1 x3 x4 x5 x6 h
noncomputable def BX0_winningPush_18 (rc : Mem → Int64 → Int32 → Int32 → Option (Int32 × Mem)) (rl18 : Mem → Int64 → Int32 → Int32 → Int32 → Option (Int32 × Mem)) (σ : Mem) (x1 : Int64) (x3 : Int32) (x4 : Int32) (x5 : Int32) : Option (Int32 × Mem) :=
  if (σ.1 1 6) ≤ x5 then
  (some ((-9 : Int32), σ))
  else
  (FX0_winningPush_33 rc rl18 FU σ x1 x3 x4 x5 (0 : Int32))
set_option maxHeartbeats 4000000 in
set_option maxRecDepth 100000 in
theorem jX0_winningPush_18 {X : CX} {out : Int32 × Mem} (rc : Mem → Int64 → Int32 → Int32 → Option (Int32 × Mem)) {dd : Nat} (hdd : 4 ≤ dd) (hrc : ∀ (σ : Mem) (a1 : Int64) (a3 : Int32) (a4 : Int32) (r : Int32) (σ2 : Mem), rc σ a1 a3 a4 = some (r, σ2) → Con SX dd yX0_winsWhateverComes cX0_winsWhateverComes 9 (some .boolean) (fun ad => [.ref (ad 4), .long a1, .int a3, .int a4]) σ (fun _ => some (.int r)) σ2) (hE : Ends X SX (some (.int out.1)) out.2) (rl18 : Mem → Int64 → Int32 → Int32 → Int32 → Option (Int32 × Mem)) (hr18 : ∀ (σ : Mem) (x1 : Int64) (x3 : Int32) (x4 : Int32) (x5 : Int32), rl18 σ x1 x3 x4 x5 = some out → J X SX (mX0_winningPush dd) σ 18 [(0, .ref (xad X 4)), (1, .long x1), (3, .int x3), (4, .int x4), (5, .int x5)] []) (σ : Mem) (x1 : Int64) (x3 : Int32) (x4 : Int32) (x5 : Int32) (h : BX0_winningPush_18 rc rl18 σ x1 x3 x4 x5 = some out) : J X SX (mX0_winningPush dd) σ 18 [(0, .ref (xad X 4)), (1, .long x1), (3, .int x3), (4, .int x4), (5, .int x5)] [] := by
  refine r_iload 4 dX0_winningPush_18 rfl rfl ?_
  refine r_aload_n 0 dX0_winningPush_20 rfl rfl rfl ?_
  refine r_getR fg_RX0_15 rfl rfl dX0_winningPush_21 rfl ?_
  refine r_getI fg_RX0_27 rfl rfl dX0_winningPush_24 rfl ?_
  refine r_icmp_ge dX0_winningPush_27 rfl rfl h (fun c h => ?_) (fun c h => ?_)
  · refine r_bipush dX0_winningPush_122 rfl kb_m9 ?_
    exact r_iret rfl dX0_winningPush_124 h hE
  · refine r_iconst dX0_winningPush_30 rfl ki_0 ?_
    refine r_istoreV [(6, .int (0 : Int32)), (0, .ref (xad X 4)), (1, .long x1), (3, .int x3), (4, .int x4), (5, .int x5)] dX0_winningPush_31 rfl (show 6 < 8 by decide) rfl ?_
    refine r_sub [1, 2, 3, 4, 5, 0] rfl ?_
    exact lX0_winningPush_33 rc hdd hrc hE rl18 hr18 FU σ x1 x3 x4 x5 (0 : Int32) h
noncomputable def FX0_winningPush_18 (rc : Mem → Int64 → Int32 → Int32 → Option (Int32 × Mem)) (n : Nat) : Mem → Int64 → Int32 → Int32 → Int32 → Option (Int32 × Mem) :=
  Nat.rec (fun _ _ _ _ _ => none) (fun _ ih => BX0_winningPush_18 rc ih) n
theorem lX0_winningPush_18 {X : CX} {out : Int32 × Mem} (rc : Mem → Int64 → Int32 → Int32 → Option (Int32 × Mem)) {dd : Nat} (hdd : 4 ≤ dd) (hrc : ∀ (σ : Mem) (a1 : Int64) (a3 : Int32) (a4 : Int32) (r : Int32) (σ2 : Mem), rc σ a1 a3 a4 = some (r, σ2) → Con SX dd yX0_winsWhateverComes cX0_winsWhateverComes 9 (some .boolean) (fun ad => [.ref (ad 4), .long a1, .int a3, .int a4]) σ (fun _ => some (.int r)) σ2) (hE : Ends X SX (some (.int out.1)) out.2) : ∀ (n : Nat) (σ : Mem) (x1 : Int64) (x3 : Int32) (x4 : Int32) (x5 : Int32), FX0_winningPush_18 rc n σ x1 x3 x4 x5 = some out → J X SX (mX0_winningPush dd) σ 18 [(0, .ref (xad X 4)), (1, .long x1), (3, .int x3), (4, .int x4), (5, .int x5)] [] := by
  intro n
  induction n with
  | zero => intro σ x1 x3 x4 x5 h; exact nn h
  | succ n ih => intro σ x1 x3 x4 x5 h; exact jX0_winningPush_18 rc hdd hrc hE (FX0_winningPush_18 rc n) ih σ x1 x3 x4 x5 h
noncomputable def FX0_winningPush (rc : Mem → Int64 → Int32 → Int32 → Option (Int32 × Mem)) (σ : Mem) (a1 : Int64) (a3 : Int32) (a4 : Int32) : Option (Int32 × Mem) :=
  if a4 < (1 : Int32) then
  (some ((-9 : Int32), σ))
  else
  (if a4 ≤ (4 : Int32) then
  (FX0_winningPush_18 rc FU σ a1 a3 a4 (0 : Int32))
  else
  (some ((-9 : Int32), σ)))
set_option maxHeartbeats 4000000 in
set_option maxRecDepth 100000 in
theorem eX0_winningPush {X : CX} {out : Int32 × Mem} (rc : Mem → Int64 → Int32 → Int32 → Option (Int32 × Mem)) {dd : Nat} (hdd : 4 ≤ dd) (hrc : ∀ (σ : Mem) (a1 : Int64) (a3 : Int32) (a4 : Int32) (r : Int32) (σ2 : Mem), rc σ a1 a3 a4 = some (r, σ2) → Con SX dd yX0_winsWhateverComes cX0_winsWhateverComes 9 (some .boolean) (fun ad => [.ref (ad 4), .long a1, .int a3, .int a4]) σ (fun _ => some (.int r)) σ2) (hE : Ends X SX (some (.int out.1)) out.2) (σ : Mem) (a1 : Int64) (a3 : Int32) (a4 : Int32) (h : FX0_winningPush rc σ a1 a3 a4 = some out) : J X SX (mX0_winningPush dd) σ 0 [(0, .ref (xad X 4)), (1, .long a1), (3, .int a3), (4, .int a4)] [] := by
  refine r_iload 3 dX0_winningPush_0 rfl rfl ?_
  refine r_iconst dX0_winningPush_2 rfl ki_1 ?_
  refine r_icmp_lt dX0_winningPush_3 rfl rfl h (fun c h => ?_) (fun c h => ?_)
  · refine r_bipush dX0_winningPush_12 rfl kb_m9 ?_
    exact r_iret rfl dX0_winningPush_14 h hE
  · refine r_iload 3 dX0_winningPush_6 rfl rfl ?_
    refine r_iconst dX0_winningPush_8 rfl ki_4 ?_
    refine r_icmp_le dX0_winningPush_9 rfl rfl h (fun c h => ?_) (fun c h => ?_)
    · refine r_iconst dX0_winningPush_15 rfl ki_0 ?_
      refine r_istoreV [(5, .int (0 : Int32)), (0, .ref (xad X 4)), (1, .long a1), (3, .int a3), (4, .int a4)] dX0_winningPush_16 rfl (show 5 < 8 by decide) rfl ?_
      refine r_sub [1, 2, 3, 4, 0] rfl ?_
      exact lX0_winningPush_18 rc hdd hrc hE FU σ a1 a3 a4 (0 : Int32) h
    · refine r_bipush dX0_winningPush_12 rfl kb_m9 ?_
      exact r_iret rfl dX0_winningPush_14 h hE
theorem coX0_winningPush (rc : Mem → Int64 → Int32 → Int32 → Option (Int32 × Mem)) {dd : Nat} (hdd : 4 ≤ dd) (hrc : ∀ (σ : Mem) (a1 : Int64) (a3 : Int32) (a4 : Int32) (r : Int32) (σ2 : Mem), rc σ a1 a3 a4 = some (r, σ2) → Con SX dd yX0_winsWhateverComes cX0_winsWhateverComes 9 (some .boolean) (fun ad => [.ref (ad 4), .long a1, .int a3, .int a4]) σ (fun _ => some (.int r)) σ2) (σ : Mem) (a1 : Int64) (a3 : Int32) (a4 : Int32) (r : Int32) (σ2 : Mem) (h : FX0_winningPush rc σ a1 a3 a4 = some (r, σ2)) : Con SX (dd + 1) yX0_winningPush cX0_winningPush 8 (some .int) (fun ad => [.ref (ad 4), .long a1, .int a3, .int a4]) σ (fun _ => some (.int r)) σ2 :=
  con_of (by decide +kernel) (fun _ => Nat.le_of_ble_eq_true rfl) (fun X hE => eX0_winningPush rc hdd hrc (out := (r, σ2)) hE σ a1 a3 a4 h)
-- IceYard$Game winsWhateverComes
abbrev mX0_winsWhateverComes (dd : Nat) : MD := (cX0_winsWhateverComes, RX0, 9, (some .boolean), dd + 1)
noncomputable def BX0_winsWhateverComes_21 (rc : Mem → Int64 → Int32 → Int32 → Option (Int32 × Mem)) (rl6 : Mem → Int64 → Int32 → Int32 → Int32 → Int32 → Option (Int32 × Mem)) (rl21 : Mem → Int64 → Int32 → Int32 → Int32 → Int32 → Int32 → Option (Int32 × Mem)) (σ : Mem) (x1 : Int64) (x3 : Int32) (x4 : Int32) (x5 : Int32) (x6 : Int32) (x7 : Int32) : Option (Int32 × Mem) :=
  if (4 : Int32) ≤ x7 then
  (nm (x6 + (1 : Int32)) fun x_10 =>
  rl6 σ x1 x3 x4 x5 x_10)
  else
  (bi (FX6_goes σ x1 x6 x7) fun r12 σ11 =>
  if r12 = 0 then
  (nm (x7 + (1 : Int32)) fun x_18 =>
  rl21 σ11 x1 x3 x4 x5 x6 x_18)
  else
  (nm (σ11.1 2 9) fun x_13 =>
  if x_13 = x3 then
  (nm (x7 + (1 : Int32)) fun x_17 =>
  rl21 σ11 x1 x3 x4 (1 : Int32) x6 x_17)
  else
  (if 0 ≤ x_13 then
  (rz (0 : Int32) σ11)
  else
  (bi (rc σ11 (σ11.2 2 6) x3 (x4 - (1 : Int32))) fun r15 σ14 =>
  if 0 ≤ r15 then
  (nm (x7 + (1 : Int32)) fun x_16 =>
  rl21 σ14 x1 x3 x4 (1 : Int32) x6 x_16)
  else
  (rz (0 : Int32) σ14)))))
set_option maxHeartbeats 4000000 in
set_option maxRecDepth 100000 in
theorem jX0_winsWhateverComes_21 {X : CX} {out : Int32 × Mem} (rc : Mem → Int64 → Int32 → Int32 → Option (Int32 × Mem)) {dd : Nat} (hdd : 4 ≤ dd) (hrc : ∀ (σ : Mem) (a1 : Int64) (a3 : Int32) (a4 : Int32) (r : Int32) (σ2 : Mem), rc σ a1 a3 a4 = some (r, σ2) → Con SX dd yX0_winningPush cX0_winningPush 8 (some .int) (fun ad => [.ref (ad 4), .long a1, .int a3, .int a4]) σ (fun _ => some (.int r)) σ2) (hE : Ends X SX (some (.int out.1)) out.2) (rl6 : Mem → Int64 → Int32 → Int32 → Int32 → Int32 → Option (Int32 × Mem)) (hr6 : ∀ (σ : Mem) (x1 : Int64) (x3 : Int32) (x4 : Int32) (x5 : Int32) (x6 : Int32), rl6 σ x1 x3 x4 x5 x6 = some out → J X SX (mX0_winsWhateverComes dd) σ 6 [(0, .ref (xad X 4)), (1, .long x1), (3, .int x3), (4, .int x4), (5, .int x5), (6, .int x6)] []) (rl21 : Mem → Int64 → Int32 → Int32 → Int32 → Int32 → Int32 → Option (Int32 × Mem)) (hr21 : ∀ (σ : Mem) (x1 : Int64) (x3 : Int32) (x4 : Int32) (x5 : Int32) (x6 : Int32) (x7 : Int32), rl21 σ x1 x3 x4 x5 x6 x7 = some out → J X SX (mX0_winsWhateverComes dd) σ 21 [(0, .ref (xad X 4)), (1, .long x1), (3, .int x3), (4, .int x4), (5, .int x5), (6, .int x6), (7, .int x7)] []) (σ : Mem) (x1 : Int64) (x3 : Int32) (x4 : Int32) (x5 : Int32) (x6 : Int32) (x7 : Int32) (h : BX0_winsWhateverComes_21 rc rl6 rl21 σ x1 x3 x4 x5 x6 x7 = some out) : J X SX (mX0_winsWhateverComes dd) σ 21 [(0, .ref (xad X 4)), (1, .long x1), (3, .int x3), (4, .int x4), (5, .int x5), (6, .int x6), (7, .int x7)] [] := by
  refine r_iload 6 dX0_winsWhateverComes_21 rfl rfl ?_
  refine r_iconst dX0_winsWhateverComes_23 rfl ki_4 ?_
  refine r_icmp_ge dX0_winsWhateverComes_24 rfl rfl h (fun c h => ?_) (fun c h => ?_)
  · refine r_iinc 5 (fun x_10 => [(6, .int x_10), (0, .ref (xad X 4)), (1, .long x1), (3, .int x3), (4, .int x4), (5, .int x5), (7, .int x7)]) dX0_winsWhateverComes_98 rfl rfl ki_1 (show 6 < 9 by decide) (fun _ => rfl) h (fun x_10 h => ?_)
    refine r_goto dX0_winsWhateverComes_101 rfl ?_
    refine r_sub [1, 2, 3, 4, 5, 0] rfl ?_
    exact hr6 σ x1 x3 x4 x5 x_10 h
  · refine r_aload_n 0 dX0_winsWhateverComes_27 rfl rfl rfl ?_
    refine r_getR fg_RX0_19 rfl rfl dX0_winsWhateverComes_28 rfl ?_
    refine r_lload_n 1 dX0_winsWhateverComes_31 rfl rfl rfl ?_
    refine r_iload 5 dX0_winsWhateverComes_32 rfl rfl ?_
    refine r_iload 6 dX0_winsWhateverComes_34 rfl rfl ?_
    obtain ⟨r12, σ11, hc, h⟩ := bi_of h
    refine r_callV [.long x1, .int x6, .int x7] [] [.int r12]  (coX6_goes σ x1 x6 x7 r12 σ11 hc) mv_RX0_32 (Nat.lt_succ_of_le (Nat.le_trans (by decide) hdd)) rfl rfl rfl rfl rfl (Nat.le_of_ble_eq_true rfl) rfl dX0_winsWhateverComes_36 rfl ?_
    refine r_if_ne dX0_winsWhateverComes_39 rfl rfl h (fun c h => ?_) (fun c h => ?_)
    · refine r_iconst dX0_winsWhateverComes_45 rfl ki_1 ?_
      refine r_istoreV [(5, .int (1 : Int32)), (0, .ref (xad X 4)), (1, .long x1), (3, .int x3), (4, .int x4), (6, .int x6), (7, .int x7)] dX0_winsWhateverComes_46 rfl (show 5 < 9 by decide) rfl ?_
      refine r_aload_n 1 dX0_winsWhateverComes_48 rfl rfl rfl ?_
      refine r_getR fg_RX0_19 rfl rfl dX0_winsWhateverComes_49 rfl ?_
      refine r_getI fg_RX0_38 rfl rfl dX0_winsWhateverComes_52 rfl ?_
      refine r_istore (fun x_13 => [(8, .int x_13), (5, .int (1 : Int32)), (0, .ref (xad X 4)), (1, .long x1), (3, .int x3), (4, .int x4), (6, .int x6), (7, .int x7)]) dX0_winsWhateverComes_55 rfl (show 8 < 9 by decide) (fun _ => rfl) h (fun x_13 h => ?_)
      refine r_iload 0 dX0_winsWhateverComes_57 rfl rfl ?_
      refine r_iload_n 4 dX0_winsWhateverComes_59 rfl rfl rfl ?_
      refine r_icmp_ne dX0_winsWhateverComes_60 rfl rfl h (fun c h => ?_) (fun c h => ?_)
      · refine r_iload 0 dX0_winsWhateverComes_66 rfl rfl ?_
        refine r_if_ge dX0_winsWhateverComes_68 rfl rfl h (fun c h => ?_) (fun c h => ?_)
        · refine r_iconst dX0_winsWhateverComes_90 rfl ki_0 ?_
          exact r_zret rfl dX0_winsWhateverComes_91 h hE
        · refine r_aload_n 2 dX0_winsWhateverComes_71 rfl rfl rfl ?_
          refine r_aload_n 2 dX0_winsWhateverComes_72 rfl rfl rfl ?_
          refine r_getR fg_RX0_19 rfl rfl dX0_winsWhateverComes_73 rfl ?_
          refine r_getL fg_RX0_41 rfl rfl dX0_winsWhateverComes_76 rfl ?_
          refine r_iload_n 4 dX0_winsWhateverComes_79 rfl rfl rfl ?_
          refine r_iload 5 dX0_winsWhateverComes_80 rfl rfl ?_
          refine r_iconst dX0_winsWhateverComes_82 rfl ki_1 ?_
          refine r_isub dX0_winsWhateverComes_83 rfl ?_
          obtain ⟨r15, σ14, hc, h⟩ := bi_of h
          refine r_callV [.long (σ11.2 2 6), .int x3, .int (x4 - (1 : Int32))] [] [.int r15]  (hrc σ11 (σ11.2 2 6) x3 (x4 - (1 : Int32)) r15 σ14 hc) mv_RX0_23 (Nat.lt_succ_self dd) rfl rfl rfl rfl rfl (Nat.le_of_ble_eq_true rfl) rfl dX0_winsWhateverComes_84 rfl ?_
          refine r_if_ge dX0_winsWhateverComes_87 rfl rfl h (fun c h => ?_) (fun c h => ?_)
          · refine r_iinc 7 (fun x_16 => [(7, .int x_16), (8, .int x_13), (5, .int (1 : Int32)), (0, .ref (xad X 4)), (1, .long x1), (3, .int x3), (4, .int x4), (6, .int x6)]) dX0_winsWhateverComes_92 rfl rfl ki_1 (show 7 < 9 by decide) (fun _ => rfl) h (fun x_16 h => ?_)
            refine r_goto dX0_winsWhateverComes_95 rfl ?_
            refine r_sub [3, 4, 5, 6, 2, 7, 0] rfl ?_
            exact hr21 σ14 x1 x3 x4 (1 : Int32) x6 x_16 h
          · refine r_iconst dX0_winsWhateverComes_90 rfl ki_0 ?_
            exact r_zret rfl dX0_winsWhateverComes_91 h hE
      · refine r_goto dX0_winsWhateverComes_63 rfl ?_
        refine r_iinc 7 (fun x_17 => [(7, .int x_17), (8, .int x_13), (5, .int (1 : Int32)), (0, .ref (xad X 4)), (1, .long x1), (3, .int x3), (4, .int x4), (6, .int x6)]) dX0_winsWhateverComes_92 rfl rfl ki_1 (show 7 < 9 by decide) (fun _ => rfl) h (fun x_17 h => ?_)
        refine r_goto dX0_winsWhateverComes_95 rfl ?_
        refine r_sub [3, 4, 5, 6, 2, 7, 0] rfl ?_
        exact hr21 σ11 x1 x3 x4 (1 : Int32) x6 x_17 h
    · refine r_goto dX0_winsWhateverComes_42 rfl ?_
      refine r_iinc 6 (fun x_18 => [(7, .int x_18), (0, .ref (xad X 4)), (1, .long x1), (3, .int x3), (4, .int x4), (5, .int x5), (6, .int x6)]) dX0_winsWhateverComes_92 rfl rfl ki_1 (show 7 < 9 by decide) (fun _ => rfl) h (fun x_18 h => ?_)
      refine r_goto dX0_winsWhateverComes_95 rfl ?_
      refine r_sub [1, 2, 3, 4, 5, 6, 0] rfl ?_
      exact hr21 σ11 x1 x3 x4 x5 x6 x_18 h
noncomputable def FX0_winsWhateverComes_21 (rc : Mem → Int64 → Int32 → Int32 → Option (Int32 × Mem)) (rl6 : Mem → Int64 → Int32 → Int32 → Int32 → Int32 → Option (Int32 × Mem)) (n : Nat) : Mem → Int64 → Int32 → Int32 → Int32 → Int32 → Int32 → Option (Int32 × Mem) :=
  Nat.rec (fun _ _ _ _ _ _ _ => none) (fun _ ih => BX0_winsWhateverComes_21 rc rl6 ih) n
theorem lX0_winsWhateverComes_21 {X : CX} {out : Int32 × Mem} (rc : Mem → Int64 → Int32 → Int32 → Option (Int32 × Mem)) {dd : Nat} (hdd : 4 ≤ dd) (hrc : ∀ (σ : Mem) (a1 : Int64) (a3 : Int32) (a4 : Int32) (r : Int32) (σ2 : Mem), rc σ a1 a3 a4 = some (r, σ2) → Con SX dd yX0_winningPush cX0_winningPush 8 (some .int) (fun ad => [.ref (ad 4), .long a1, .int a3, .int a4]) σ (fun _ => some (.int r)) σ2) (hE : Ends X SX (some (.int out.1)) out.2) (rl6 : Mem → Int64 → Int32 → Int32 → Int32 → Int32 → Option (Int32 × Mem)) (hr6 : ∀ (σ : Mem) (x1 : Int64) (x3 : Int32) (x4 : Int32) (x5 : Int32) (x6 : Int32), rl6 σ x1 x3 x4 x5 x6 = some out → J X SX (mX0_winsWhateverComes dd) σ 6 [(0, .ref (xad X 4)), (1, .long x1), (3, .int x3), (4, .int x4), (5, .int x5), (6, .int x6)] []) : ∀ (n : Nat) (σ : Mem) (x1 : Int64) (x3 : Int32) (x4 : Int32) (x5 : Int32) (x6 : Int32) (x7 : Int32), FX0_winsWhateverComes_21 rc rl6 n σ x1 x3 x4 x5 x6 x7 = some out → J X SX (mX0_winsWhateverComes dd) σ 21 [(0, .ref (xad X 4)), (1, .long x1), (3, .int x3), (4, .int x4), (5, .int x5), (6, .int x6), (7, .int x7)] [] := by
  intro n
  induction n with
  | zero => intro σ x1 x3 x4 x5 x6 x7 h; exact nn h
  | succ n ih => intro σ x1 x3 x4 x5 x6 x7 h; exact jX0_winsWhateverComes_21 rc hdd hrc hE rl6 hr6 (FX0_winsWhateverComes_21 rc rl6 n) ih σ x1 x3 x4 x5 x6 x7 h
noncomputable def BX0_winsWhateverComes_6 (rc : Mem → Int64 → Int32 → Int32 → Option (Int32 × Mem)) (rl6 : Mem → Int64 → Int32 → Int32 → Int32 → Int32 → Option (Int32 × Mem)) (σ : Mem) (x1 : Int64) (x3 : Int32) (x4 : Int32) (x5 : Int32) (x6 : Int32) : Option (Int32 × Mem) :=
  if (σ.1 1 6) ≤ x6 then
  (rz x5 σ)
  else
  (FX0_winsWhateverComes_21 rc rl6 FU σ x1 x3 x4 x5 x6 (0 : Int32))
set_option maxHeartbeats 4000000 in
set_option maxRecDepth 100000 in
theorem jX0_winsWhateverComes_6 {X : CX} {out : Int32 × Mem} (rc : Mem → Int64 → Int32 → Int32 → Option (Int32 × Mem)) {dd : Nat} (hdd : 4 ≤ dd) (hrc : ∀ (σ : Mem) (a1 : Int64) (a3 : Int32) (a4 : Int32) (r : Int32) (σ2 : Mem), rc σ a1 a3 a4 = some (r, σ2) → Con SX dd yX0_winningPush cX0_winningPush 8 (some .int) (fun ad => [.ref (ad 4), .long a1, .int a3, .int a4]) σ (fun _ => some (.int r)) σ2) (hE : Ends X SX (some (.int out.1)) out.2) (rl6 : Mem → Int64 → Int32 → Int32 → Int32 → Int32 → Option (Int32 × Mem)) (hr6 : ∀ (σ : Mem) (x1 : Int64) (x3 : Int32) (x4 : Int32) (x5 : Int32) (x6 : Int32), rl6 σ x1 x3 x4 x5 x6 = some out → J X SX (mX0_winsWhateverComes dd) σ 6 [(0, .ref (xad X 4)), (1, .long x1), (3, .int x3), (4, .int x4), (5, .int x5), (6, .int x6)] []) (σ : Mem) (x1 : Int64) (x3 : Int32) (x4 : Int32) (x5 : Int32) (x6 : Int32) (h : BX0_winsWhateverComes_6 rc rl6 σ x1 x3 x4 x5 x6 = some out) : J X SX (mX0_winsWhateverComes dd) σ 6 [(0, .ref (xad X 4)), (1, .long x1), (3, .int x3), (4, .int x4), (5, .int x5), (6, .int x6)] [] := by
  refine r_iload 5 dX0_winsWhateverComes_6 rfl rfl ?_
  refine r_aload_n 0 dX0_winsWhateverComes_8 rfl rfl rfl ?_
  refine r_getR fg_RX0_15 rfl rfl dX0_winsWhateverComes_9 rfl ?_
  refine r_getI fg_RX0_27 rfl rfl dX0_winsWhateverComes_12 rfl ?_
  refine r_icmp_ge dX0_winsWhateverComes_15 rfl rfl h (fun c h => ?_) (fun c h => ?_)
  · refine r_iload 4 dX0_winsWhateverComes_104 rfl rfl ?_
    exact r_zret rfl dX0_winsWhateverComes_106 h hE
  · refine r_iconst dX0_winsWhateverComes_18 rfl ki_0 ?_
    refine r_istoreV [(7, .int (0 : Int32)), (0, .ref (xad X 4)), (1, .long x1), (3, .int x3), (4, .int x4), (5, .int x5), (6, .int x6)] dX0_winsWhateverComes_19 rfl (show 7 < 9 by decide) rfl ?_
    refine r_sub [1, 2, 3, 4, 5, 6, 0] rfl ?_
    exact lX0_winsWhateverComes_21 rc hdd hrc hE rl6 hr6 FU σ x1 x3 x4 x5 x6 (0 : Int32) h
noncomputable def FX0_winsWhateverComes_6 (rc : Mem → Int64 → Int32 → Int32 → Option (Int32 × Mem)) (n : Nat) : Mem → Int64 → Int32 → Int32 → Int32 → Int32 → Option (Int32 × Mem) :=
  Nat.rec (fun _ _ _ _ _ _ => none) (fun _ ih => BX0_winsWhateverComes_6 rc ih) n
theorem lX0_winsWhateverComes_6 {X : CX} {out : Int32 × Mem} (rc : Mem → Int64 → Int32 → Int32 → Option (Int32 × Mem)) {dd : Nat} (hdd : 4 ≤ dd) (hrc : ∀ (σ : Mem) (a1 : Int64) (a3 : Int32) (a4 : Int32) (r : Int32) (σ2 : Mem), rc σ a1 a3 a4 = some (r, σ2) → Con SX dd yX0_winningPush cX0_winningPush 8 (some .int) (fun ad => [.ref (ad 4), .long a1, .int a3, .int a4]) σ (fun _ => some (.int r)) σ2) (hE : Ends X SX (some (.int out.1)) out.2) : ∀ (n : Nat) (σ : Mem) (x1 : Int64) (x3 : Int32) (x4 : Int32) (x5 : Int32) (x6 : Int32), FX0_winsWhateverComes_6 rc n σ x1 x3 x4 x5 x6 = some out → J X SX (mX0_winsWhateverComes dd) σ 6 [(0, .ref (xad X 4)), (1, .long x1), (3, .int x3), (4, .int x4), (5, .int x5), (6, .int x6)] [] := by
  intro n
  induction n with
  | zero => intro σ x1 x3 x4 x5 x6 h; exact nn h
  | succ n ih => intro σ x1 x3 x4 x5 x6 h; exact jX0_winsWhateverComes_6 rc hdd hrc hE (FX0_winsWhateverComes_6 rc n) ih σ x1 x3 x4 x5 x6 h
noncomputable def FX0_winsWhateverComes (rc : Mem → Int64 → Int32 → Int32 → Option (Int32 × Mem)) (σ : Mem) (a1 : Int64) (a3 : Int32) (a4 : Int32) : Option (Int32 × Mem) :=
  FX0_winsWhateverComes_6 rc FU σ a1 a3 a4 (0 : Int32) (0 : Int32)
set_option maxHeartbeats 4000000 in
set_option maxRecDepth 100000 in
theorem eX0_winsWhateverComes {X : CX} {out : Int32 × Mem} (rc : Mem → Int64 → Int32 → Int32 → Option (Int32 × Mem)) {dd : Nat} (hdd : 4 ≤ dd) (hrc : ∀ (σ : Mem) (a1 : Int64) (a3 : Int32) (a4 : Int32) (r : Int32) (σ2 : Mem), rc σ a1 a3 a4 = some (r, σ2) → Con SX dd yX0_winningPush cX0_winningPush 8 (some .int) (fun ad => [.ref (ad 4), .long a1, .int a3, .int a4]) σ (fun _ => some (.int r)) σ2) (hE : Ends X SX (some (.int out.1)) out.2) (σ : Mem) (a1 : Int64) (a3 : Int32) (a4 : Int32) (h : FX0_winsWhateverComes rc σ a1 a3 a4 = some out) : J X SX (mX0_winsWhateverComes dd) σ 0 [(0, .ref (xad X 4)), (1, .long a1), (3, .int a3), (4, .int a4)] [] := by
  refine r_iconst dX0_winsWhateverComes_0 rfl ki_0 ?_
  refine r_istoreV [(5, .int (0 : Int32)), (0, .ref (xad X 4)), (1, .long a1), (3, .int a3), (4, .int a4)] dX0_winsWhateverComes_1 rfl (show 5 < 9 by decide) rfl ?_
  refine r_iconst dX0_winsWhateverComes_3 rfl ki_0 ?_
  refine r_istoreV [(6, .int (0 : Int32)), (5, .int (0 : Int32)), (0, .ref (xad X 4)), (1, .long a1), (3, .int a3), (4, .int a4)] dX0_winsWhateverComes_4 rfl (show 6 < 9 by decide) rfl ?_
  refine r_sub [2, 3, 4, 5, 1, 0] rfl ?_
  exact lX0_winsWhateverComes_6 rc hdd hrc hE FU σ a1 a3 a4 (0 : Int32) (0 : Int32) h
theorem coX0_winsWhateverComes (rc : Mem → Int64 → Int32 → Int32 → Option (Int32 × Mem)) {dd : Nat} (hdd : 4 ≤ dd) (hrc : ∀ (σ : Mem) (a1 : Int64) (a3 : Int32) (a4 : Int32) (r : Int32) (σ2 : Mem), rc σ a1 a3 a4 = some (r, σ2) → Con SX dd yX0_winningPush cX0_winningPush 8 (some .int) (fun ad => [.ref (ad 4), .long a1, .int a3, .int a4]) σ (fun _ => some (.int r)) σ2) (σ : Mem) (a1 : Int64) (a3 : Int32) (a4 : Int32) (r : Int32) (σ2 : Mem) (h : FX0_winsWhateverComes rc σ a1 a3 a4 = some (r, σ2)) : Con SX (dd + 1) yX0_winsWhateverComes cX0_winsWhateverComes 9 (some .boolean) (fun ad => [.ref (ad 4), .long a1, .int a3, .int a4]) σ (fun _ => some (.int r)) σ2 :=
  con_of (by decide +kernel) (fun _ => Nat.le_of_ble_eq_true rfl) (fun X hE => eX0_winsWhateverComes rc hdd hrc (out := (r, σ2)) hE σ a1 a3 a4 h)
noncomputable def prec {A B : Type} (a0 : A) (b0 : B) (f : B → A) (g : A → B) (d : Nat) : A × B := Nat.rec (a0, b0) (fun _ ih => (f ih.2, g ih.1)) d
theorem prec_1 {A B : Type} (a0 : A) (b0 : B) (f : B → A) (g : A → B) (n : Nat) : (prec a0 b0 f g (n + 1)).1 = f (prec a0 b0 f g n).2 := rfl
theorem prec_2 {A B : Type} (a0 : A) (b0 : B) (f : B → A) (g : A → B) (n : Nat) : (prec a0 b0 f g (n + 1)).2 = g (prec a0 b0 f g n).1 := rfl
noncomputable def FRX0_winningPush (d : Nat) : (Mem → Int64 → Int32 → Int32 → Option (Int32 × Mem)) × (Mem → Int64 → Int32 → Int32 → Option (Int32 × Mem)) :=
  prec (fun _ _ _ _ => none) (fun _ _ _ _ => none) FX0_winningPush FX0_winsWhateverComes d
theorem FRsX0_winningPush_1 (n : Nat) : (FRX0_winningPush (n + 1)).1 = FX0_winningPush (FRX0_winningPush n).2 := prec_1 _ _ _ _ n
theorem FRsX0_winningPush_2 (n : Nat) : (FRX0_winningPush (n + 1)).2 = FX0_winsWhateverComes (FRX0_winningPush n).1 := prec_2 _ _ _ _ n
theorem crX0_winningPush : ∀ d : Nat, (∀ (σ : Mem) (a1 : Int64) (a3 : Int32) (a4 : Int32) (r : Int32) (σ2 : Mem), (FRX0_winningPush d).1 σ a1 a3 a4 = some (r, σ2) → Con SX (4 + d) yX0_winningPush cX0_winningPush 8 (some .int) (fun ad => [.ref (ad 4), .long a1, .int a3, .int a4]) σ (fun _ => some (.int r)) σ2) ∧ (∀ (σ : Mem) (a1 : Int64) (a3 : Int32) (a4 : Int32) (r : Int32) (σ2 : Mem), (FRX0_winningPush d).2 σ a1 a3 a4 = some (r, σ2) → Con SX (4 + d) yX0_winsWhateverComes cX0_winsWhateverComes 9 (some .boolean) (fun ad => [.ref (ad 4), .long a1, .int a3, .int a4]) σ (fun _ => some (.int r)) σ2) := by
  intro d
  induction d with
  | zero => exact ⟨fun σ a1 a3 a4 r σ2 h => nn h, fun σ a1 a3 a4 r σ2 h => nn h⟩
  | succ n ih =>
    refine ⟨fun σ a1 a3 a4 r σ2 h => ?_, fun σ a1 a3 a4 r σ2 h => ?_⟩
    · rw [FRsX0_winningPush_1] at h
      exact coX0_winningPush (FRX0_winningPush n).2 (dd := 4 + n) (Nat.le_add_right _ _) ih.2 σ a1 a3 a4 r σ2 h
    · rw [FRsX0_winningPush_2] at h
      exact coX0_winsWhateverComes (FRX0_winningPush n).1 (dd := 4 + n) (Nat.le_add_right _ _) ih.1 σ a1 a3 a4 r σ2 h
noncomputable def FTX0_winningPush : (Mem → Int64 → Int32 → Int32 → Option (Int32 × Mem)) := (FRX0_winningPush 14).1
theorem ctX0_winningPush (σ : Mem) (a1 : Int64) (a3 : Int32) (a4 : Int32) (r : Int32) (σ2 : Mem) (h : FTX0_winningPush σ a1 a3 a4 = some (r, σ2)) : Con SX 18 yX0_winningPush cX0_winningPush 8 (some .int) (fun ad => [.ref (ad 4), .long a1, .int a3, .int a4]) σ (fun _ => some (.int r)) σ2 := (crX0_winningPush 14).1 σ a1 a3 a4 r σ2 h
noncomputable def FTX0_winsWhateverComes : (Mem → Int64 → Int32 → Int32 → Option (Int32 × Mem)) := (FRX0_winningPush 14).2
theorem ctX0_winsWhateverComes (σ : Mem) (a1 : Int64) (a3 : Int32) (a4 : Int32) (r : Int32) (σ2 : Mem) (h : FTX0_winsWhateverComes σ a1 a3 a4 = some (r, σ2)) : Con SX 18 yX0_winsWhateverComes cX0_winsWhateverComes 9 (some .boolean) (fun ad => [.ref (ad 4), .long a1, .int a3, .int a4]) σ (fun _ => some (.int r)) σ2 := (crX0_winningPush 14).2 σ a1 a3 a4 r σ2 h
-- IceYard$Game leastTurns
abbrev mX0_leastTurns : MD := (cX0_leastTurns, RX0, 5, (some .int), 19)
noncomputable def BX0_leastTurns_3 (rl3 : Mem → Int64 → Int32 → Int32 → Option (Int32 × Mem)) (σ : Mem) (x1 : Int64) (x3 : Int32) (x4 : Int32) : Option (Int32 × Mem) :=
  if (4 : Int32) < x4 then
  (some ((-9 : Int32), σ))
  else
  (bi (FTX0_winningPush σ x1 x3 x4) fun r6 σ5 =>
  nm (setI σ5 4 2 r6) fun σ7 =>
  if (σ7.1 4 2) < 0 then
  (nm (x4 + (1 : Int32)) fun x_8 =>
  rl3 σ7 x1 x3 x_8)
  else
  (some (x4, σ7)))
set_option maxHeartbeats 4000000 in
set_option maxRecDepth 100000 in
theorem jX0_leastTurns_3 {X : CX} {out : Int32 × Mem} (hE : Ends X SX (some (.int out.1)) out.2) (rl3 : Mem → Int64 → Int32 → Int32 → Option (Int32 × Mem)) (hr3 : ∀ (σ : Mem) (x1 : Int64) (x3 : Int32) (x4 : Int32), rl3 σ x1 x3 x4 = some out → J X SX mX0_leastTurns σ 3 [(0, .ref (xad X 4)), (1, .long x1), (3, .int x3), (4, .int x4)] []) (σ : Mem) (x1 : Int64) (x3 : Int32) (x4 : Int32) (h : BX0_leastTurns_3 rl3 σ x1 x3 x4 = some out) : J X SX mX0_leastTurns σ 3 [(0, .ref (xad X 4)), (1, .long x1), (3, .int x3), (4, .int x4)] [] := by
  refine r_iload 3 dX0_leastTurns_3 rfl rfl ?_
  refine r_iconst dX0_leastTurns_5 rfl ki_4 ?_
  refine r_icmp_gt dX0_leastTurns_6 rfl rfl h (fun c h => ?_) (fun c h => ?_)
  · refine r_bipush dX0_leastTurns_37 rfl kb_m9 ?_
    exact r_iret rfl dX0_leastTurns_39 h hE
  · refine r_aload_n 0 dX0_leastTurns_9 rfl rfl rfl ?_
    refine r_aload_n 0 dX0_leastTurns_10 rfl rfl rfl ?_
    refine r_lload_n 1 dX0_leastTurns_11 rfl rfl rfl ?_
    refine r_iload_n 2 dX0_leastTurns_12 rfl rfl rfl ?_
    refine r_iload 3 dX0_leastTurns_13 rfl rfl ?_
    obtain ⟨r6, σ5, hc, h⟩ := bi_of h
    refine r_callV [.long x1, .int x3, .int x4] [.ref (xad X 4)] [.int r6, .ref (xad X 4)]  (ctX0_winningPush σ x1 x3 x4 r6 σ5 hc) mv_RX0_23 (by decide) rfl rfl rfl rfl rfl (Nat.le_of_ble_eq_true rfl) rfl dX0_leastTurns_15 rfl ?_
    refine r_putI fp_RX0_9 rfl rfl dX0_leastTurns_18 rfl h (fun σ7 h => ?_)
    refine r_aload_n 0 dX0_leastTurns_21 rfl rfl rfl ?_
    refine r_getI fg_RX0_9 rfl rfl dX0_leastTurns_22 rfl ?_
    refine r_if_lt dX0_leastTurns_25 rfl rfl h (fun c h => ?_) (fun c h => ?_)
    · refine r_iinc 3 (fun x_8 => [(4, .int x_8), (0, .ref (xad X 4)), (1, .long x1), (3, .int x3)]) dX0_leastTurns_31 rfl rfl ki_1 (show 4 < 5 by decide) (fun _ => rfl) h (fun x_8 h => ?_)
      refine r_goto dX0_leastTurns_34 rfl ?_
      refine r_sub [1, 2, 3, 0] rfl ?_
      exact hr3 σ7 x1 x3 x_8 h
    · refine r_iload 3 dX0_leastTurns_28 rfl rfl ?_
      exact r_iret rfl dX0_leastTurns_30 h hE
noncomputable def FX0_leastTurns_3 (n : Nat) : Mem → Int64 → Int32 → Int32 → Option (Int32 × Mem) :=
  Nat.rec (fun _ _ _ _ => none) (fun _ ih => BX0_leastTurns_3 ih) n
theorem lX0_leastTurns_3 {X : CX} {out : Int32 × Mem} (hE : Ends X SX (some (.int out.1)) out.2) : ∀ (n : Nat) (σ : Mem) (x1 : Int64) (x3 : Int32) (x4 : Int32), FX0_leastTurns_3 n σ x1 x3 x4 = some out → J X SX mX0_leastTurns σ 3 [(0, .ref (xad X 4)), (1, .long x1), (3, .int x3), (4, .int x4)] [] := by
  intro n
  induction n with
  | zero => intro σ x1 x3 x4 h; exact nn h
  | succ n ih => intro σ x1 x3 x4 h; exact jX0_leastTurns_3 hE (FX0_leastTurns_3 n) ih σ x1 x3 x4 h
noncomputable def FX0_leastTurns (σ : Mem) (a1 : Int64) (a3 : Int32) : Option (Int32 × Mem) :=
  FX0_leastTurns_3 FU σ a1 a3 (1 : Int32)
set_option maxHeartbeats 4000000 in
set_option maxRecDepth 100000 in
theorem eX0_leastTurns {X : CX} {out : Int32 × Mem} (hE : Ends X SX (some (.int out.1)) out.2) (σ : Mem) (a1 : Int64) (a3 : Int32) (h : FX0_leastTurns σ a1 a3 = some out) : J X SX mX0_leastTurns σ 0 [(0, .ref (xad X 4)), (1, .long a1), (3, .int a3)] [] := by
  refine r_iconst dX0_leastTurns_0 rfl ki_1 ?_
  refine r_istoreV [(4, .int (1 : Int32)), (0, .ref (xad X 4)), (1, .long a1), (3, .int a3)] dX0_leastTurns_1 rfl (show 4 < 5 by decide) rfl ?_
  refine r_sub [1, 2, 3, 0] rfl ?_
  exact lX0_leastTurns_3 hE FU σ a1 a3 (1 : Int32) h
theorem coX0_leastTurns (σ : Mem) (a1 : Int64) (a3 : Int32) (r : Int32) (σ2 : Mem) (h : FX0_leastTurns σ a1 a3 = some (r, σ2)) : Con SX 19 yX0_leastTurns cX0_leastTurns 5 (some .int) (fun ad => [.ref (ad 4), .long a1, .int a3]) σ (fun _ => some (.int r)) σ2 :=
  con_of (by decide +kernel) (fun _ => Nat.le_of_ble_eq_true rfl) (fun X hE => eX0_leastTurns (out := (r, σ2)) hE σ a1 a3 h)
-- IceYard first
abbrev mX8_first : MD := (cX8_first, RX8, 2, (some .int), 20)
noncomputable def FX8_first (σ : Mem) (a1 : Int32) : Option (Int32 × Mem) :=
  bi (FX8_isGate σ a1) fun r6 σ5 =>
  if r6 = 0 then
  (some ((-1 : Int32), σ5))
  else
  (bi (FX0_leastTurns σ5 (σ5.2 0 9) a1) fun r8 σ7 =>
  some ((σ7.1 4 2), σ7))
set_option maxHeartbeats 4000000 in
set_option maxRecDepth 100000 in
theorem eX8_first {X : CX} {out : Int32 × Mem} (hE : Ends X SX (some (.int out.1)) out.2) (σ : Mem) (a1 : Int32) (h : FX8_first σ a1 = some out) : J X SX mX8_first σ 0 [(0, .ref (xad X 0)), (1, .int a1)] [] := by
  refine r_iload_n 1 dX8_first_0 rfl rfl rfl ?_
  obtain ⟨r6, σ5, hc, h⟩ := bi_of h
  refine r_callS [] [.int r6]  (coX8_isGate σ a1 r6 σ5 hc) ms_RX8_169 (by decide) rfl rfl (Nat.le_of_ble_eq_true rfl) rfl dX8_first_1 rfl ?_
  refine r_if_ne dX8_first_4 rfl rfl h (fun c h => ?_) (fun c h => ?_)
  · refine r_aload_n 0 dX8_first_9 rfl rfl rfl ?_
    refine r_getR fg_RX8_39 rfl rfl dX8_first_10 rfl ?_
    refine r_aload_n 0 dX8_first_13 rfl rfl rfl ?_
    refine r_getL fg_RX8_119 rfl rfl dX8_first_14 rfl ?_
    refine r_iload_n 1 dX8_first_17 rfl rfl rfl ?_
    obtain ⟨r8, σ7, hc, h⟩ := bi_of h
    refine r_callV [.long (σ5.2 0 9), .int a1] [] [.int r8]  (coX0_leastTurns σ5 (σ5.2 0 9) a1 r8 σ7 hc) mv_RX8_178 (by decide) rfl rfl rfl rfl rfl (Nat.le_of_ble_eq_true rfl) rfl dX8_first_18 rfl ?_
    refine r_pop dX8_first_21 rfl rfl ?_
    refine r_aload_n 0 dX8_first_22 rfl rfl rfl ?_
    refine r_getR fg_RX8_39 rfl rfl dX8_first_23 rfl ?_
    refine r_getI fg_RX8_181 rfl rfl dX8_first_26 rfl ?_
    exact r_iret rfl dX8_first_29 h hE
  · refine r_iconst dX8_first_7 rfl ki_m1 ?_
    exact r_iret rfl dX8_first_8 h hE
theorem coX8_first (σ : Mem) (a1 : Int32) (r : Int32) (σ2 : Mem) (h : FX8_first σ a1 = some (r, σ2)) : Con SX 20 yX8_first cX8_first 2 (some .int) (fun ad => [.ref (ad 0), .int a1]) σ (fun _ => some (.int r)) σ2 :=
  con_of (by decide +kernel) (fun _ => Nat.le_of_ble_eq_true rfl) (fun X hE => eX8_first (out := (r, σ2)) hE σ a1 h)
-- IceYard isLane
abbrev mX8_isLane : MD := (cX8_isLane, RX8, 1, (some .boolean), 1)
noncomputable def FX8_isLane (σ : Mem) (a0 : Int32) : Option (Int32 × Mem) :=
  if a0 < 0 then
  (rz (0 : Int32) σ)
  else
  (if (3 : Int32) ≤ a0 then
  (rz (0 : Int32) σ)
  else
  (rz (1 : Int32) σ))
set_option maxHeartbeats 4000000 in
set_option maxRecDepth 100000 in
theorem eX8_isLane {X : CX} {out : Int32 × Mem} (hE : Ends X SX (some (.int out.1)) out.2) (σ : Mem) (a0 : Int32) (h : FX8_isLane σ a0 = some out) : J X SX mX8_isLane σ 0 [(0, .int a0)] [] := by
  refine r_iload_n 0 dX8_isLane_0 rfl rfl rfl ?_
  refine r_if_lt dX8_isLane_1 rfl rfl h (fun c h => ?_) (fun c h => ?_)
  · refine r_iconst dX8_isLane_13 rfl ki_0 ?_
    exact r_zret rfl dX8_isLane_14 h hE
  · refine r_iload_n 0 dX8_isLane_4 rfl rfl rfl ?_
    refine r_iconst dX8_isLane_5 rfl ki_3 ?_
    refine r_icmp_ge dX8_isLane_6 rfl rfl h (fun c h => ?_) (fun c h => ?_)
    · refine r_iconst dX8_isLane_13 rfl ki_0 ?_
      exact r_zret rfl dX8_isLane_14 h hE
    · refine r_iconst dX8_isLane_9 rfl ki_1 ?_
      refine r_goto dX8_isLane_10 rfl ?_
      exact r_zret rfl dX8_isLane_14 h hE
theorem coX8_isLane (σ : Mem) (a0 : Int32) (r : Int32) (σ2 : Mem) (h : FX8_isLane σ a0 = some (r, σ2)) : Con SX 1 yX8_isLane cX8_isLane 1 (some .boolean) (fun ad => [.int a0]) σ (fun _ => some (.int r)) σ2 :=
  con_of (by decide +kernel) (fun _ => Nat.le_of_ble_eq_true rfl) (fun X hE => eX8_isLane (out := (r, σ2)) hE σ a0 h)
-- IceYard whereIs
abbrev mX8_whereIs : MD := (cX8_whereIs, RX8, 4, (some .int), 2)
noncomputable def FX8_whereIs (σ : Mem) (a0 : Int64) (a2 : Int32) : Option (Int32 × Mem) :=
  bi (FX8_placeOf σ a0 a2) fun r4 σ3 =>
  if (36 : Int32) ≤ r4 then
  (if r4 = (36 : Int32) then
  (some ((-6 : Int32), σ3))
  else
  (some (((-20 : Int32) - (r4 - (37 : Int32))), σ3)))
  else
  (some (r4, σ3))
set_option maxHeartbeats 4000000 in
set_option maxRecDepth 100000 in
theorem eX8_whereIs {X : CX} {out : Int32 × Mem} (hE : Ends X SX (some (.int out.1)) out.2) (σ : Mem) (a0 : Int64) (a2 : Int32) (h : FX8_whereIs σ a0 a2 = some out) : J X SX mX8_whereIs σ 0 [(0, .long a0), (2, .int a2)] [] := by
  refine r_lload_n 0 dX8_whereIs_0 rfl rfl rfl ?_
  refine r_iload_n 1 dX8_whereIs_1 rfl rfl rfl ?_
  obtain ⟨r4, σ3, hc, h⟩ := bi_of h
  refine r_callS [] [.int r4]  (coX8_placeOf σ a0 a2 r4 σ3 hc) ms_RX8_136 (by decide) rfl rfl (Nat.le_of_ble_eq_true rfl) rfl dX8_whereIs_2 rfl ?_
  refine r_istoreV_n [(3, .int r4), (0, .long a0), (2, .int a2)] dX8_whereIs_5 rfl rfl (show 3 < 4 by decide) rfl ?_
  refine r_iload_n 0 dX8_whereIs_6 rfl rfl rfl ?_
  refine r_bipush dX8_whereIs_7 rfl kb_36 ?_
  refine r_icmp_ge dX8_whereIs_9 rfl rfl h (fun c h => ?_) (fun c h => ?_)
  · refine r_iload_n 0 dX8_whereIs_14 rfl rfl rfl ?_
    refine r_bipush dX8_whereIs_15 rfl kb_36 ?_
    refine r_icmp_ne dX8_whereIs_17 rfl rfl h (fun c h => ?_) (fun c h => ?_)
    · refine r_bipush dX8_whereIs_25 rfl kb_m20 ?_
      refine r_iload_n 0 dX8_whereIs_27 rfl rfl rfl ?_
      refine r_bipush dX8_whereIs_28 rfl kb_37 ?_
      refine r_isub dX8_whereIs_30 rfl ?_
      refine r_isub dX8_whereIs_31 rfl ?_
      exact r_iret rfl dX8_whereIs_32 h hE
    · refine r_bipush dX8_whereIs_20 rfl kb_m6 ?_
      refine r_goto dX8_whereIs_22 rfl ?_
      exact r_iret rfl dX8_whereIs_32 h hE
  · refine r_iload_n 0 dX8_whereIs_12 rfl rfl rfl ?_
    exact r_iret rfl dX8_whereIs_13 h hE
theorem coX8_whereIs (σ : Mem) (a0 : Int64) (a2 : Int32) (r : Int32) (σ2 : Mem) (h : FX8_whereIs σ a0 a2 = some (r, σ2)) : Con SX 2 yX8_whereIs cX8_whereIs 4 (some .int) (fun ad => [.long a0, .int a2]) σ (fun _ => some (.int r)) σ2 :=
  con_of (by decide +kernel) (fun _ => Nat.le_of_ble_eq_true rfl) (fun X hE => eX8_whereIs (out := (r, σ2)) hE σ a0 a2 h)
-- IceYard ofBlock
abbrev mX8_ofBlock : MD := (cX8_ofBlock, RX8, 3, (some .int), 3)
noncomputable def FX8_ofBlock (σ : Mem) (a1 : Int32) (a2 : Int32) : Option (Int32 × Mem) :=
  bi (FX1_hasBlock σ a1) fun r8 σ7 =>
  if r8 = 0 then
  (some ((-1 : Int32), σ7))
  else
  (if a2 = 0 then
  (bi (FX1_kindOf σ7 a1) fun r12 σ11 =>
  some (r12, σ11))
  else
  (if a2 = (1 : Int32) then
  (bi (FX8_whereIs σ7 (σ7.2 0 9) a1) fun r10 σ9 =>
  some (r10, σ9))
  else
  (some ((-2 : Int32), σ7))))
set_option maxHeartbeats 4000000 in
set_option maxRecDepth 100000 in
theorem eX8_ofBlock {X : CX} {out : Int32 × Mem} (hE : Ends X SX (some (.int out.1)) out.2) (σ : Mem) (a1 : Int32) (a2 : Int32) (h : FX8_ofBlock σ a1 a2 = some out) : J X SX mX8_ofBlock σ 0 [(0, .ref (xad X 0)), (1, .int a1), (2, .int a2)] [] := by
  refine r_aload_n 0 dX8_ofBlock_0 rfl rfl rfl ?_
  refine r_getR fg_RX8_14 rfl rfl dX8_ofBlock_1 rfl ?_
  refine r_iload_n 1 dX8_ofBlock_4 rfl rfl rfl ?_
  obtain ⟨r8, σ7, hc, h⟩ := bi_of h
  refine r_callV [.int a1] [] [.int r8]  (coX1_hasBlock σ a1 r8 σ7 hc) mv_RX8_144 (by decide) rfl rfl rfl rfl rfl (Nat.le_of_ble_eq_true rfl) rfl dX8_ofBlock_5 rfl ?_
  refine r_if_ne dX8_ofBlock_8 rfl rfl h (fun c h => ?_) (fun c h => ?_)
  · refine r_iload_n 2 dX8_ofBlock_13 rfl rfl rfl ?_
    refine r_if_ne dX8_ofBlock_14 rfl rfl h (fun c h => ?_) (fun c h => ?_)
    · refine r_iload_n 2 dX8_ofBlock_26 rfl rfl rfl ?_
      refine r_iconst dX8_ofBlock_27 rfl ki_1 ?_
      refine r_icmp_ne dX8_ofBlock_28 rfl rfl h (fun c h => ?_) (fun c h => ?_)
      · refine r_bipush dX8_ofBlock_42 rfl kb_m2 ?_
        exact r_iret rfl dX8_ofBlock_44 h hE
      · refine r_aload_n 0 dX8_ofBlock_31 rfl rfl rfl ?_
        refine r_getL fg_RX8_119 rfl rfl dX8_ofBlock_32 rfl ?_
        refine r_iload_n 1 dX8_ofBlock_35 rfl rfl rfl ?_
        obtain ⟨r10, σ9, hc, h⟩ := bi_of h
        refine r_callS [] [.int r10]  (coX8_whereIs σ7 (σ7.2 0 9) a1 r10 σ9 hc) ms_RX8_150 (by decide) rfl rfl (Nat.le_of_ble_eq_true rfl) rfl dX8_ofBlock_36 rfl ?_
        refine r_goto dX8_ofBlock_39 rfl ?_
        exact r_iret rfl dX8_ofBlock_44 h hE
    · refine r_aload_n 0 dX8_ofBlock_17 rfl rfl rfl ?_
      refine r_getR fg_RX8_14 rfl rfl dX8_ofBlock_18 rfl ?_
      refine r_iload_n 1 dX8_ofBlock_21 rfl rfl rfl ?_
      obtain ⟨r12, σ11, hc, h⟩ := bi_of h
      refine r_callV [.int a1] [] [.int r12]  (coX1_kindOf σ7 a1 r12 σ11 hc) mv_RX8_147 (by decide) rfl rfl rfl rfl rfl (Nat.le_of_ble_eq_true rfl) rfl dX8_ofBlock_22 rfl ?_
      exact r_iret rfl dX8_ofBlock_25 h hE
  · refine r_iconst dX8_ofBlock_11 rfl ki_m1 ?_
    exact r_iret rfl dX8_ofBlock_12 h hE
theorem coX8_ofBlock (σ : Mem) (a1 : Int32) (a2 : Int32) (r : Int32) (σ2 : Mem) (h : FX8_ofBlock σ a1 a2 = some (r, σ2)) : Con SX 3 yX8_ofBlock cX8_ofBlock 3 (some .int) (fun ad => [.ref (ad 0), .int a1, .int a2]) σ (fun _ => some (.int r)) σ2 :=
  con_of (by decide +kernel) (fun _ => Nat.le_of_ble_eq_true rfl) (fun X hE => eX8_ofBlock (out := (r, σ2)) hE σ a1 a2 h)

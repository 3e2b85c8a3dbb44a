-- IceYardModel slide
abbrev mX9_slide : MD := (cX9_slide, RX9, 6, (some .int), 3)
noncomputable def BX9_slide_0 (rl0 : Mem → Int32 → Int32 → Option (Int32 × Mem)) (σ : Mem) (x1 : Int32) (x2 : Int32) : Option (Int32 × Mem) :=
  rd x1 6 fun j16 =>
  bi (FX9_beside σ (σ.1 4 j16) x2) fun r18 σ17 =>
  if r18 < 0 then
  (some ((-9 : Int32), σ17))
  else
  (rd r18 36 fun j19 =>
  if (σ17.1 1 j19) = (1 : Int32) then
  (some ((-9 : Int32), σ17))
  else
  (bi (FX9_blockIn σ17 r18) fun r21 σ20 =>
  if r21 < 0 then
  (nm (setL σ20 0 18 ((σ20.2 0 18) ||| ((1 : Int64) <<< ((r18).toInt64 &&& 63)))) fun σ22 =>
  bi (FX9_whatIs σ22 r18) fun r24 σ23 =>
  stI σ23 4 6 x1 r18 fun σ25 =>
  if r24 = (3 : Int32) then
  (nm (setL σ25 0 8 ((σ25.2 0 8) ||| ((1 : Int64) <<< ((r18).toInt64 &&& 63)))) fun σ29 =>
  stI σ29 4 6 x1 (-6 : Int32) fun σ30 =>
  some ((-9 : Int32), σ30))
  else
  (if r24 < (4 : Int32) then
  (if r24 = (2 : Int32) then
  (rd x1 6 fun j26 =>
  if (2 : Int32) ≤ (σ25.1 2 j26) then
  (rl0 σ25 x1 x2)
  else
  (some ((-9 : Int32), σ25)))
  else
  (rl0 σ25 x1 x2))
  else
  (stI σ25 4 6 x1 ((-20 : Int32) - (r24 - (4 : Int32))) fun σ27 =>
  nm (setI σ27 0 19 ((σ27.1 0 19) ||| ((1 : Int32) <<< ((r24 - (4 : Int32)) &&& 31)))) fun σ28 =>
  some ((-9 : Int32), σ28))))
  else
  (some (r21, σ20))))
set_option maxHeartbeats 4000000 in
set_option maxRecDepth 100000 in
theorem jX9_slide_0 {X : CX} {out : Int32 × Mem} (hE : Ends X SM (some (.int out.1)) out.2) (rl0 : Mem → Int32 → Int32 → Option (Int32 × Mem)) (hr0 : ∀ (σ : Mem) (x1 : Int32) (x2 : Int32), rl0 σ x1 x2 = some out → J X SM mX9_slide σ 0 [(0, .ref (xad X 0)), (1, .int x1), (2, .int x2)] []) (σ : Mem) (x1 : Int32) (x2 : Int32) (h : BX9_slide_0 rl0 σ x1 x2 = some out) : J X SM mX9_slide σ 0 [(0, .ref (xad X 0)), (1, .int x1), (2, .int x2)] [] := by
  refine r_aload_n 0 dX9_slide_0 rfl rfl rfl ?_
  refine r_aload_n 0 dX9_slide_1 rfl rfl rfl ?_
  refine r_getR fg_RX9_19 rfl rfl dX9_slide_2 rfl ?_
  refine r_iload_n 1 dX9_slide_5 rfl rfl rfl ?_
  refine r_iald rfl dX9_slide_6 rfl h (fun j16 h => ?_)
  refine r_iload_n 2 dX9_slide_7 rfl rfl rfl ?_
  obtain ⟨r18, σ17, hc, h⟩ := bi_of h
  refine r_callV [.int (σ.1 4 j16), .int x2] [] [.int r18]  (coX9_beside σ (σ.1 4 j16) x2 r18 σ17 hc) mv_RX9_205 (by decide) rfl rfl rfl rfl rfl (Nat.le_of_ble_eq_true rfl) rfl dX9_slide_8 rfl ?_
  refine r_istoreV_n [(3, .int r18), (0, .ref (xad X 0)), (1, .int x1), (2, .int x2)] dX9_slide_11 rfl rfl (show 3 < 6 by decide) rfl ?_
  refine r_iload_n 0 dX9_slide_12 rfl rfl rfl ?_
  refine r_if_lt dX9_slide_13 rfl rfl h (fun c h => ?_) (fun c h => ?_)
  · refine r_bipush dX9_slide_26 rfl kb_m9 ?_
    exact r_iret rfl dX9_slide_28 h hE
  · refine r_aload_n 1 dX9_slide_16 rfl rfl rfl ?_
    refine r_getR fg_RX9_7 rfl rfl dX9_slide_17 rfl ?_
    refine r_iload_n 0 dX9_slide_20 rfl rfl rfl ?_
    refine r_iald rfl dX9_slide_21 rfl h (fun j19 h => ?_)
    refine r_iconst dX9_slide_22 rfl ki_1 ?_
    refine r_icmp_ne dX9_slide_23 rfl rfl h (fun c h => ?_) (fun c h => ?_)
    · refine r_aload_n 1 dX9_slide_29 rfl rfl rfl ?_
      refine r_iload_n 0 dX9_slide_30 rfl rfl rfl ?_
      obtain ⟨r21, σ20, hc, h⟩ := bi_of h
      refine r_callV [.int r18] [] [.int r21]  (coX9_blockIn σ17 r18 r21 σ20 hc) mv_RX9_196 (by decide) rfl rfl rfl rfl rfl (Nat.le_of_ble_eq_true rfl) rfl dX9_slide_31 rfl ?_
      refine r_istoreV [(4, .int r21), (3, .int r18), (0, .ref (xad X 0)), (1, .int x1), (2, .int x2)] dX9_slide_34 rfl (show 4 < 6 by decide) rfl ?_
      refine r_iload 0 dX9_slide_36 rfl rfl ?_
      refine r_if_lt dX9_slide_38 rfl rfl h (fun c h => ?_) (fun c h => ?_)
      · refine r_aload_n 2 dX9_slide_44 rfl rfl rfl ?_
        refine r_dup dX9_slide_45 rfl rfl ?_
        refine r_getL fg_RX9_208 rfl rfl dX9_slide_46 rfl ?_
        refine r_lconst dX9_slide_49 rfl kl_1 ?_
        refine r_iload_n 1 dX9_slide_50 rfl rfl rfl ?_
        refine r_lshl dX9_slide_51 rfl ?_
        refine r_lor dX9_slide_52 rfl ?_
        refine r_putL fp_RX9_208 rfl rfl dX9_slide_53 rfl h (fun σ22 h => ?_)
        refine r_aload_n 2 dX9_slide_56 rfl rfl rfl ?_
        refine r_iload_n 1 dX9_slide_57 rfl rfl rfl ?_
        obtain ⟨r24, σ23, hc, h⟩ := bi_of h
        refine r_callV [.int r18] [] [.int r24]  (coX9_whatIs σ22 r18 r24 σ23 hc) mv_RX9_199 (by decide) rfl rfl rfl rfl rfl (Nat.le_of_ble_eq_true rfl) rfl dX9_slide_58 rfl ?_
        refine r_istoreV [(5, .int r24), (4, .int r21), (3, .int r18), (0, .ref (xad X 0)), (1, .int x1), (2, .int x2)] dX9_slide_61 rfl (show 5 < 6 by decide) rfl ?_
        refine r_aload_n 3 dX9_slide_63 rfl rfl rfl ?_
        refine r_getR fg_RX9_19 rfl rfl dX9_slide_64 rfl ?_
        refine r_iload_n 4 dX9_slide_67 rfl rfl rfl ?_
        refine r_iload_n 2 dX9_slide_68 rfl rfl rfl ?_
        refine r_iast rfl dX9_slide_69 rfl h (fun σ25 h => ?_)
        refine r_iload 0 dX9_slide_70 rfl rfl ?_
        refine r_iconst dX9_slide_72 rfl ki_3 ?_
        refine r_icmp_ne dX9_slide_73 rfl rfl h (fun c h => ?_) (fun c h => ?_)
        · refine r_iload 0 dX9_slide_99 rfl rfl ?_
          refine r_iconst dX9_slide_101 rfl ki_4 ?_
          refine r_icmp_lt dX9_slide_102 rfl rfl h (fun c h => ?_) (fun c h => ?_)
          · refine r_iload 0 dX9_slide_136 rfl rfl ?_
            refine r_iconst dX9_slide_138 rfl ki_2 ?_
            refine r_icmp_ne dX9_slide_139 rfl rfl h (fun c h => ?_) (fun c h => ?_)
            · refine r_goto dX9_slide_155 rfl ?_
              refine r_sub [3, 4, 5] rfl ?_
              exact hr0 σ25 x1 x2 h
            · refine r_aload_n 3 dX9_slide_142 rfl rfl rfl ?_
              refine r_getR fg_RX9_13 rfl rfl dX9_slide_143 rfl ?_
              refine r_iload_n 4 dX9_slide_146 rfl rfl rfl ?_
              refine r_iald rfl dX9_slide_147 rfl h (fun j26 h => ?_)
              refine r_iconst dX9_slide_148 rfl ki_2 ?_
              refine r_icmp_ge dX9_slide_149 rfl rfl h (fun c h => ?_) (fun c h => ?_)
              · refine r_goto dX9_slide_155 rfl ?_
                refine r_sub [3, 4, 5] rfl ?_
                exact hr0 σ25 x1 x2 h
              · refine r_bipush dX9_slide_152 rfl kb_m9 ?_
                exact r_iret rfl dX9_slide_154 h hE
          · refine r_aload_n 3 dX9_slide_105 rfl rfl rfl ?_
            refine r_getR fg_RX9_19 rfl rfl dX9_slide_106 rfl ?_
            refine r_iload_n 4 dX9_slide_109 rfl rfl rfl ?_
            refine r_bipush dX9_slide_110 rfl kb_m20 ?_
            refine r_iload 0 dX9_slide_112 rfl rfl ?_
            refine r_iconst dX9_slide_114 rfl ki_4 ?_
            refine r_isub dX9_slide_115 rfl ?_
            refine r_isub dX9_slide_116 rfl ?_
            refine r_iast rfl dX9_slide_117 rfl h (fun σ27 h => ?_)
            refine r_aload_n 3 dX9_slide_118 rfl rfl rfl ?_
            refine r_dup dX9_slide_119 rfl rfl ?_
            refine r_getI fg_RX9_211 rfl rfl dX9_slide_120 rfl ?_
            refine r_iconst dX9_slide_123 rfl ki_1 ?_
            refine r_iload 0 dX9_slide_124 rfl rfl ?_
            refine r_iconst dX9_slide_126 rfl ki_4 ?_
            refine r_isub dX9_slide_127 rfl ?_
            refine r_ishl dX9_slide_128 rfl ?_
            refine r_ior dX9_slide_129 rfl ?_
            refine r_putI fp_RX9_211 rfl rfl dX9_slide_130 rfl h (fun σ28 h => ?_)
            refine r_bipush dX9_slide_133 rfl kb_m9 ?_
            exact r_iret rfl dX9_slide_135 h hE
        · refine r_aload_n 3 dX9_slide_76 rfl rfl rfl ?_
          refine r_dup dX9_slide_77 rfl rfl ?_
          refine r_getL fg_RX9_186 rfl rfl dX9_slide_78 rfl ?_
          refine r_lconst dX9_slide_81 rfl kl_1 ?_
          refine r_iload_n 2 dX9_slide_82 rfl rfl rfl ?_
          refine r_lshl dX9_slide_83 rfl ?_
          refine r_lor dX9_slide_84 rfl ?_
          refine r_putL fp_RX9_186 rfl rfl dX9_slide_85 rfl h (fun σ29 h => ?_)
          refine r_aload_n 3 dX9_slide_88 rfl rfl rfl ?_
          refine r_getR fg_RX9_19 rfl rfl dX9_slide_89 rfl ?_
          refine r_iload_n 4 dX9_slide_92 rfl rfl rfl ?_
          refine r_bipush dX9_slide_93 rfl kb_m6 ?_
          refine r_iast rfl dX9_slide_95 rfl h (fun σ30 h => ?_)
          refine r_bipush dX9_slide_96 rfl kb_m9 ?_
          exact r_iret rfl dX9_slide_98 h hE
      · refine r_iload 0 dX9_slide_41 rfl rfl ?_
        exact r_iret rfl dX9_slide_43 h hE
    · refine r_bipush dX9_slide_26 rfl kb_m9 ?_
      exact r_iret rfl dX9_slide_28 h hE
noncomputable def FX9_slide_0 (n : Nat) : Mem → Int32 → Int32 → Option (Int32 × Mem) :=
  Nat.rec (fun _ _ _ => none) (fun _ ih => BX9_slide_0 ih) n
theorem lX9_slide_0 {X : CX} {out : Int32 × Mem} (hE : Ends X SM (some (.int out.1)) out.2) : ∀ (n : Nat) (σ : Mem) (x1 : Int32) (x2 : Int32), FX9_slide_0 n σ x1 x2 = some out → J X SM mX9_slide σ 0 [(0, .ref (xad X 0)), (1, .int x1), (2, .int x2)] [] := by
  intro n
  induction n with
  | zero => intro σ x1 x2 h; exact nn h
  | succ n ih => intro σ x1 x2 h; exact jX9_slide_0 hE (FX9_slide_0 n) ih σ x1 x2 h
noncomputable def FX9_slide (σ : Mem) (a1 : Int32) (a2 : Int32) : Option (Int32 × Mem) :=
  FX9_slide_0 FU σ a1 a2
set_option maxHeartbeats 4000000 in
set_option maxRecDepth 100000 in
theorem eX9_slide {X : CX} {out : Int32 × Mem} (hE : Ends X SM (some (.int out.1)) out.2) (σ : Mem) (a1 : Int32) (a2 : Int32) (h : FX9_slide σ a1 a2 = some out) : J X SM mX9_slide σ 0 [(0, .ref (xad X 0)), (1, .int a1), (2, .int a2)] [] := by
  exact lX9_slide_0 hE FU σ a1 a2 h
theorem coX9_slide (σ : Mem) (a1 : Int32) (a2 : Int32) (r : Int32) (σ2 : Mem) (h : FX9_slide σ a1 a2 = some (r, σ2)) : Con SM 3 yX9_slide cX9_slide 6 (some .int) (fun ad => [.ref (ad 0), .int a1, .int a2]) σ (fun _ => some (.int r)) σ2 :=
  con_of (by decide +kernel) (fun _ => Nat.le_of_ble_eq_true rfl) (fun X hE => eX9_slide (out := (r, σ2)) hE σ a1 a2 h)
-- IceYardModel goes
abbrev mX9_goes : MD := (cX9_goes, RX9, 5, (some .boolean), 4)
noncomputable def FX9_goes_59 (σ : Mem) : Option (Int32 × Mem) :=
  if (lg_cmp (σ.2 0 18) (0 : Int64)) = 0 then
  (rz (0 : Int32) σ)
  else
  (rz (1 : Int32) σ)
set_option maxHeartbeats 4000000 in
set_option maxRecDepth 100000 in
theorem jX9_goes_59 {X : CX} {out : Int32 × Mem} (hE : Ends X SM (some (.int out.1)) out.2) (σ : Mem) (h : FX9_goes_59 σ = some out) : J X SM mX9_goes σ 59 [(0, .ref (xad X 0))] [] := by
  refine r_aload_n 0 dX9_goes_59 rfl rfl rfl ?_
  refine r_getL fg_RX9_208 rfl rfl dX9_goes_60 rfl ?_
  refine r_lconst dX9_goes_63 rfl kl_0 ?_
  refine r_lcmp dX9_goes_64 rfl ?_
  refine r_if_eq dX9_goes_65 rfl rfl h (fun c h => ?_) (fun c h => ?_)
  · refine r_iconst dX9_goes_72 rfl ki_0 ?_
    exact r_zret rfl dX9_goes_73 h hE
  · refine r_iconst dX9_goes_68 rfl ki_1 ?_
    refine r_goto dX9_goes_69 rfl ?_
    exact r_zret rfl dX9_goes_73 h hE
noncomputable def BX9_goes_31 (rl31 : Mem → Int32 → Int32 → Int32 → Option (Int32 × Mem)) (σ : Mem) (x2 : Int32) (x3 : Int32) (x4 : Int32) : Option (Int32 × Mem) :=
  if x4 < 0 then
  (FX9_goes_59 σ)
  else
  (rd x3 6 fun j9 =>
  if (σ.1 2 j9) ≤ 0 then
  (FX9_goes_59 σ)
  else
  (bi (FX9_slide σ x4 x2) fun r11 σ10 =>
  rl31 σ10 x2 x4 r11))
set_option maxHeartbeats 4000000 in
set_option maxRecDepth 100000 in
theorem jX9_goes_31 {X : CX} {out : Int32 × Mem} (hE : Ends X SM (some (.int out.1)) out.2) (rl31 : Mem → Int32 → Int32 → Int32 → Option (Int32 × Mem)) (hr31 : ∀ (σ : Mem) (x2 : Int32) (x3 : Int32) (x4 : Int32), rl31 σ x2 x3 x4 = some out → J X SM mX9_goes σ 31 [(0, .ref (xad X 0)), (2, .int x2), (3, .int x3), (4, .int x4)] []) (σ : Mem) (x2 : Int32) (x3 : Int32) (x4 : Int32) (h : BX9_goes_31 rl31 σ x2 x3 x4 = some out) : J X SM mX9_goes σ 31 [(0, .ref (xad X 0)), (2, .int x2), (3, .int x3), (4, .int x4)] [] := by
  refine r_iload 3 dX9_goes_31 rfl rfl ?_
  refine r_if_lt dX9_goes_33 rfl rfl h (fun c h => ?_) (fun c h => ?_)
  · refine r_sub [0] rfl ?_
    exact jX9_goes_59 hE σ h
  · refine r_aload_n 0 dX9_goes_36 rfl rfl rfl ?_
    refine r_getR fg_RX9_13 rfl rfl dX9_goes_37 rfl ?_
    refine r_iload_n 2 dX9_goes_40 rfl rfl rfl ?_
    refine r_iald rfl dX9_goes_41 rfl h (fun j9 h => ?_)
    refine r_if_le dX9_goes_42 rfl rfl h (fun c h => ?_) (fun c h => ?_)
    · refine r_sub [0] rfl ?_
      exact jX9_goes_59 hE σ h
    · refine r_iload 3 dX9_goes_45 rfl rfl ?_
      refine r_istoreV_n [(3, .int x4), (0, .ref (xad X 0)), (2, .int x2), (4, .int x4)] dX9_goes_47 rfl rfl (show 3 < 5 by decide) rfl ?_
      refine r_aload_n 1 dX9_goes_48 rfl rfl rfl ?_
      refine r_iload_n 0 dX9_goes_49 rfl rfl rfl ?_
      refine r_iload_n 2 dX9_goes_50 rfl rfl rfl ?_
      obtain ⟨r11, σ10, hc, h⟩ := bi_of h
      refine r_callV [.int x4, .int x2] [] [.int r11]  (coX9_slide σ x4 x2 r11 σ10 hc) mv_RX9_214 (by decide) rfl rfl rfl rfl rfl (Nat.le_of_ble_eq_true rfl) rfl dX9_goes_51 rfl ?_
      refine r_istoreV [(4, .int r11), (3, .int x4), (0, .ref (xad X 0)), (2, .int x2)] dX9_goes_54 rfl (show 4 < 5 by decide) rfl ?_
      refine r_goto dX9_goes_56 rfl ?_
      refine r_sub [2, 3, 1, 0] rfl ?_
      exact hr31 σ10 x2 x4 r11 h
noncomputable def FX9_goes_31 (n : Nat) : Mem → Int32 → Int32 → Int32 → Option (Int32 × Mem) :=
  Nat.rec (fun _ _ _ _ => none) (fun _ ih => BX9_goes_31 ih) n
theorem lX9_goes_31 {X : CX} {out : Int32 × Mem} (hE : Ends X SM (some (.int out.1)) out.2) : ∀ (n : Nat) (σ : Mem) (x2 : Int32) (x3 : Int32) (x4 : Int32), FX9_goes_31 n σ x2 x3 x4 = some out → J X SM mX9_goes σ 31 [(0, .ref (xad X 0)), (2, .int x2), (3, .int x3), (4, .int x4)] [] := by
  intro n
  induction n with
  | zero => intro σ x2 x3 x4 h; exact nn h
  | succ n ih => intro σ x2 x3 x4 h; exact jX9_goes_31 hE (FX9_goes_31 n) ih σ x2 x3 x4 h
noncomputable def FX9_goes (σ : Mem) (a1 : Int32) (a2 : Int32) : Option (Int32 × Mem) :=
  nm (setL σ 0 18 (0 : Int64)) fun σ12 =>
  nm (setI σ12 0 19 (0 : Int32)) fun σ13 =>
  rd a1 6 fun j14 =>
  if 0 ≤ (σ13.1 4 j14) then
  (bi (FX9_slide σ13 a1 a2) fun r16 σ15 =>
  FX9_goes_31 FU σ15 a2 a1 r16)
  else
  (rz (0 : Int32) σ13)
set_option maxHeartbeats 4000000 in
set_option maxRecDepth 100000 in
theorem eX9_goes {X : CX} {out : Int32 × Mem} (hE : Ends X SM (some (.int out.1)) out.2) (σ : Mem) (a1 : Int32) (a2 : Int32) (h : FX9_goes σ a1 a2 = some out) : J X SM mX9_goes σ 0 [(0, .ref (xad X 0)), (1, .int a1), (2, .int a2)] [] := by
  refine r_aload_n 0 dX9_goes_0 rfl rfl rfl ?_
  refine r_lconst dX9_goes_1 rfl kl_0 ?_
  refine r_putL fp_RX9_208 rfl rfl dX9_goes_2 rfl h (fun σ12 h => ?_)
  refine r_aload_n 0 dX9_goes_5 rfl rfl rfl ?_
  refine r_iconst dX9_goes_6 rfl ki_0 ?_
  refine r_putI fp_RX9_211 rfl rfl dX9_goes_7 rfl h (fun σ13 h => ?_)
  refine r_aload_n 0 dX9_goes_10 rfl rfl rfl ?_
  refine r_getR fg_RX9_19 rfl rfl dX9_goes_11 rfl ?_
  refine r_iload_n 1 dX9_goes_14 rfl rfl rfl ?_
  refine r_iald rfl dX9_goes_15 rfl h (fun j14 h => ?_)
  refine r_if_ge dX9_goes_16 rfl rfl h (fun c h => ?_) (fun c h => ?_)
  · refine r_iload_n 1 dX9_goes_21 rfl rfl rfl ?_
    refine r_istoreV_n [(3, .int a1), (0, .ref (xad X 0)), (1, .int a1), (2, .int a2)] dX9_goes_22 rfl rfl (show 3 < 5 by decide) rfl ?_
    refine r_aload_n 1 dX9_goes_23 rfl rfl rfl ?_
    refine r_iload_n 0 dX9_goes_24 rfl rfl rfl ?_
    refine r_iload_n 3 dX9_goes_25 rfl rfl rfl ?_
    obtain ⟨r16, σ15, hc, h⟩ := bi_of h
    refine r_callV [.int a1, .int a2] [] [.int r16]  (coX9_slide σ13 a1 a2 r16 σ15 hc) mv_RX9_214 (by decide) rfl rfl rfl rfl rfl (Nat.le_of_ble_eq_true rfl) rfl dX9_goes_26 rfl ?_
    refine r_istoreV [(4, .int r16), (3, .int a1), (0, .ref (xad X 0)), (1, .int a1), (2, .int a2)] dX9_goes_29 rfl (show 4 < 5 by decide) rfl ?_
    refine r_sub [2, 4, 1, 0] rfl ?_
    exact lX9_goes_31 hE FU σ15 a2 a1 r16 h
  · refine r_iconst dX9_goes_19 rfl ki_0 ?_
    exact r_zret rfl dX9_goes_20 h hE
theorem coX9_goes (σ : Mem) (a1 : Int32) (a2 : Int32) (r : Int32) (σ2 : Mem) (h : FX9_goes σ a1 a2 = some (r, σ2)) : Con SM 4 yX9_goes cX9_goes 5 (some .boolean) (fun ad => [.ref (ad 0), .int a1, .int a2]) σ (fun _ => some (.int r)) σ2 :=
  con_of (by decide +kernel) (fun _ => Nat.le_of_ble_eq_true rfl) (fun X hE => eX9_goes (out := (r, σ2)) hE σ a1 a2 h)
-- IceYardModel hold
abbrev mX9_hold : MD := (cX9_hold, RX9, 3, none, 1)
noncomputable def BX9_hold_2 (rl2 : Mem → Int32 → Int32 → Option (Mem)) (σ : Mem) (x1 : Int32) (x2 : Int32) : Option (Mem) :=
  if (6 : Int32) ≤ x2 then
  (stL σ 9 5 x1 (σ.2 0 8) fun σ5 =>
  some σ5)
  else
  (rd x2 6 fun j6 =>
  stI σ 8 30 (((6 : Int32) * x1) + x2) (σ.1 4 j6) fun σ7 =>
  nm (x2 + (1 : Int32)) fun x_8 =>
  rl2 σ7 x1 x_8)
set_option maxHeartbeats 4000000 in
set_option maxRecDepth 100000 in
theorem jX9_hold_2 {X : CX} {out : Mem} (hE : Ends X SM none out) (rl2 : Mem → Int32 → Int32 → Option (Mem)) (hr2 : ∀ (σ : Mem) (x1 : Int32) (x2 : Int32), rl2 σ x1 x2 = some out → J X SM mX9_hold σ 2 [(0, .ref (xad X 0)), (1, .int x1), (2, .int x2)] []) (σ : Mem) (x1 : Int32) (x2 : Int32) (h : BX9_hold_2 rl2 σ x1 x2 = some out) : J X SM mX9_hold σ 2 [(0, .ref (xad X 0)), (1, .int x1), (2, .int x2)] [] := by
  refine r_iload_n 2 dX9_hold_2 rfl rfl rfl ?_
  refine r_bipush dX9_hold_3 rfl kb_6 ?_
  refine r_icmp_ge dX9_hold_5 rfl rfl h (fun c h => ?_) (fun c h => ?_)
  · refine r_aload_n 0 dX9_hold_31 rfl rfl rfl ?_
    refine r_getR fg_RX9_34 rfl rfl dX9_hold_32 rfl ?_
    refine r_iload_n 1 dX9_hold_35 rfl rfl rfl ?_
    refine r_aload_n 0 dX9_hold_36 rfl rfl rfl ?_
    refine r_getL fg_RX9_186 rfl rfl dX9_hold_37 rfl ?_
    refine r_last rfl dX9_hold_40 rfl h (fun σ5 h => ?_)
    exact r_vret rfl dX9_hold_41 h hE
  · refine r_aload_n 0 dX9_hold_8 rfl rfl rfl ?_
    refine r_getR fg_RX9_31 rfl rfl dX9_hold_9 rfl ?_
    refine r_bipush dX9_hold_12 rfl kb_6 ?_
    refine r_iload_n 1 dX9_hold_14 rfl rfl rfl ?_
    refine r_imul dX9_hold_15 rfl ?_
    refine r_iload_n 2 dX9_hold_16 rfl rfl rfl ?_
    refine r_iadd dX9_hold_17 rfl ?_
    refine r_aload_n 0 dX9_hold_18 rfl rfl rfl ?_
    refine r_getR fg_RX9_19 rfl rfl dX9_hold_19 rfl ?_
    refine r_iload_n 2 dX9_hold_22 rfl rfl rfl ?_
    refine r_iald rfl dX9_hold_23 rfl h (fun j6 h => ?_)
    refine r_iast rfl dX9_hold_24 rfl h (fun σ7 h => ?_)
    refine r_iinc 2 (fun x_8 => [(2, .int x_8), (0, .ref (xad X 0)), (1, .int x1)]) dX9_hold_25 rfl rfl ki_1 (show 2 < 3 by decide) (fun _ => rfl) h (fun x_8 h => ?_)
    refine r_goto dX9_hold_28 rfl ?_
    refine r_sub [1, 2, 0] rfl ?_
    exact hr2 σ7 x1 x_8 h
noncomputable def FX9_hold_2 (n : Nat) : Mem → Int32 → Int32 → Option (Mem) :=
  Nat.rec (fun _ _ _ => none) (fun _ ih => BX9_hold_2 ih) n
theorem lX9_hold_2 {X : CX} {out : Mem} (hE : Ends X SM none out) : ∀ (n : Nat) (σ : Mem) (x1 : Int32) (x2 : Int32), FX9_hold_2 n σ x1 x2 = some out → J X SM mX9_hold σ 2 [(0, .ref (xad X 0)), (1, .int x1), (2, .int x2)] [] := by
  intro n
  induction n with
  | zero => intro σ x1 x2 h; exact nn h
  | succ n ih => intro σ x1 x2 h; exact jX9_hold_2 hE (FX9_hold_2 n) ih σ x1 x2 h
noncomputable def FX9_hold (σ : Mem) (a1 : Int32) : Option (Mem) :=
  FX9_hold_2 FU σ a1 (0 : Int32)
set_option maxHeartbeats 4000000 in
set_option maxRecDepth 100000 in
theorem eX9_hold {X : CX} {out : Mem} (hE : Ends X SM none out) (σ : Mem) (a1 : Int32) (h : FX9_hold σ a1 = some out) : J X SM mX9_hold σ 0 [(0, .ref (xad X 0)), (1, .int a1)] [] := by
  refine r_iconst dX9_hold_0 rfl ki_0 ?_
  refine r_istoreV_n [(2, .int (0 : Int32)), (0, .ref (xad X 0)), (1, .int a1)] dX9_hold_1 rfl rfl (show 2 < 3 by decide) rfl ?_
  refine r_sub [1, 2, 0] rfl ?_
  exact lX9_hold_2 hE FU σ a1 (0 : Int32) h
theorem coX9_hold (σ : Mem) (a1 : Int32) (σ2 : Mem) (h : FX9_hold σ a1 = some σ2) : Con SM 1 yX9_hold cX9_hold 3 none (fun ad => [.ref (ad 0), .int a1]) σ (fun _ => none) σ2 :=
  con_of (by decide +kernel) (fun _ => Nat.le_of_ble_eq_true rfl) (fun X hE => eX9_hold (out := σ2) hE σ a1 h)
-- IceYardModel comesHome
abbrev mX9_comesHome : MD := (cX9_comesHome, RX9, 7, (some .boolean), 5)
noncomputable def BX9_comesHome_70 (rl6 : Mem → Int32 → Int32 → Int32 → Int32 → Int32 → Option (Int32 × Mem)) (rl70 : Mem → Int32 → Int32 → Int32 → Int32 → Int32 → Int32 → Option (Int32 × Mem)) (σ : Mem) (x1 : Int32) (x2 : Int32) (x3 : Int32) (x4 : Int32) (x5 : Int32) (x6 : Int32) : Option (Int32 × Mem) :=
  if ((4 : Int32) * (σ.1 0 3)) ≤ x6 then
  (nm (x5 + (1 : Int32)) fun x_20 =>
  rl6 σ x1 x2 x3 x4 x_20)
  else
  (if x4 = 0 then
  (if x3 = (2 : Int32) then
  (bv (FX9_give σ (1 : Int32)) fun σ23 =>
  dzI (4 : Int32) <|
  dzI (4 : Int32) <|
  bi (FX9_goes σ23 (x6 / (4 : Int32)) (x6 - x6 / (4 : Int32) * (4 : Int32))) fun r25 σ24 =>
  if r25 = 0 then
  (nm (x6 + (1 : Int32)) fun x_26 =>
  rl70 σ24 x1 x2 x3 (0 : Int32) x5 x_26)
  else
  (rd x1 6 fun j27 =>
  if (σ24.1 4 j27) = ((-20 : Int32) - x2) then
  (nm (x6 + (1 : Int32)) fun x_29 =>
  rl70 σ24 x1 x2 x3 (1 : Int32) x5 x_29)
  else
  (nm (x6 + (1 : Int32)) fun x_28 =>
  rl70 σ24 x1 x2 x3 (0 : Int32) x5 x_28)))
  else
  (nm (x5 + (1 : Int32)) fun x_22 =>
  rl6 σ x1 x2 x3 x4 x_22))
  else
  (nm (x5 + (1 : Int32)) fun x_21 =>
  rl6 σ x1 x2 x3 x4 x_21))
set_option maxHeartbeats 4000000 in
set_option maxRecDepth 100000 in
theorem jX9_comesHome_70 {X : CX} {out : Int32 × Mem} (hE : Ends X SM (some (.int out.1)) out.2) (rl6 : Mem → Int32 → Int32 → Int32 → Int32 → Int32 → Option (Int32 × Mem)) (hr6 : ∀ (σ : Mem) (x1 : Int32) (x2 : Int32) (x3 : Int32) (x4 : Int32) (x5 : Int32), rl6 σ x1 x2 x3 x4 x5 = some out → J X SM mX9_comesHome σ 6 [(0, .ref (xad X 0)), (1, .int x1), (2, .int x2), (3, .int x3), (4, .int x4), (5, .int x5)] []) (rl70 : Mem → Int32 → Int32 → Int32 → Int32 → Int32 → Int32 → Option (Int32 × Mem)) (hr70 : ∀ (σ : Mem) (x1 : Int32) (x2 : Int32) (x3 : Int32) (x4 : Int32) (x5 : Int32) (x6 : Int32), rl70 σ x1 x2 x3 x4 x5 x6 = some out → J X SM mX9_comesHome σ 70 [(0, .ref (xad X 0)), (1, .int x1), (2, .int x2), (3, .int x3), (4, .int x4), (5, .int x5), (6, .int x6)] []) (σ : Mem) (x1 : Int32) (x2 : Int32) (x3 : Int32) (x4 : Int32) (x5 : Int32) (x6 : Int32) (h : BX9_comesHome_70 rl6 rl70 σ x1 x2 x3 x4 x5 x6 = some out) : J X SM mX9_comesHome σ 70 [(0, .ref (xad X 0)), (1, .int x1), (2, .int x2), (3, .int x3), (4, .int x4), (5, .int x5), (6, .int x6)] [] := by
  refine r_iload 6 dX9_comesHome_70 rfl rfl ?_
  refine r_iconst dX9_comesHome_72 rfl ki_4 ?_
  refine r_aload_n 0 dX9_comesHome_73 rfl rfl rfl ?_
  refine r_getI fg_RX9_179 rfl rfl dX9_comesHome_74 rfl ?_
  refine r_imul dX9_comesHome_77 rfl ?_
  refine r_icmp_ge dX9_comesHome_78 rfl rfl h (fun c h => ?_) (fun c h => ?_)
  · refine r_iinc 5 (fun x_20 => [(5, .int x_20), (0, .ref (xad X 0)), (1, .int x1), (2, .int x2), (3, .int x3), (4, .int x4), (6, .int x6)]) dX9_comesHome_137 rfl rfl ki_1 (show 5 < 7 by decide) (fun _ => rfl) h (fun x_20 h => ?_)
    refine r_goto dX9_comesHome_140 rfl ?_
    refine r_sub [1, 2, 3, 4, 5, 0] rfl ?_
    exact hr6 σ x1 x2 x3 x4 x_20 h
  · refine r_iload 4 dX9_comesHome_81 rfl rfl ?_
    refine r_if_ne dX9_comesHome_83 rfl rfl h (fun c h => ?_) (fun c h => ?_)
    · refine r_iinc 5 (fun x_21 => [(5, .int x_21), (0, .ref (xad X 0)), (1, .int x1), (2, .int x2), (3, .int x3), (4, .int x4), (6, .int x6)]) dX9_comesHome_137 rfl rfl ki_1 (show 5 < 7 by decide) (fun _ => rfl) h (fun x_21 h => ?_)
      refine r_goto dX9_comesHome_140 rfl ?_
      refine r_sub [1, 2, 3, 4, 5, 0] rfl ?_
      exact hr6 σ x1 x2 x3 x4 x_21 h
    · refine r_iload_n 3 dX9_comesHome_86 rfl rfl rfl ?_
      refine r_iconst dX9_comesHome_87 rfl ki_2 ?_
      refine r_icmp_ne dX9_comesHome_88 rfl rfl h (fun c h => ?_) (fun c h => ?_)
      · refine r_iinc 5 (fun x_22 => [(5, .int x_22), (0, .ref (xad X 0)), (1, .int x1), (2, .int x2), (3, .int x3), (4, .int x4), (6, .int x6)]) dX9_comesHome_137 rfl rfl ki_1 (show 5 < 7 by decide) (fun _ => rfl) h (fun x_22 h => ?_)
        refine r_goto dX9_comesHome_140 rfl ?_
        refine r_sub [1, 2, 3, 4, 5, 0] rfl ?_
        exact hr6 σ x1 x2 x3 x4 x_22 h
      · refine r_aload_n 0 dX9_comesHome_91 rfl rfl rfl ?_
        refine r_iconst dX9_comesHome_92 rfl ki_1 ?_
        obtain ⟨σ23, hc, h⟩ := bv_of h
        refine r_callV [.int (1 : Int32)] [] []  (coX9_give σ (1 : Int32) σ23 hc) mv_RX9_227 (by decide) rfl rfl rfl rfl rfl (Nat.le_of_ble_eq_true rfl) rfl dX9_comesHome_93 rfl ?_
        refine r_aload_n 0 dX9_comesHome_96 rfl rfl rfl ?_
        refine r_iload 6 dX9_comesHome_97 rfl rfl ?_
        refine r_iconst dX9_comesHome_99 rfl ki_4 ?_
        refine r_idiv dX9_comesHome_100 rfl h (fun h => ?_)
        refine r_iload 6 dX9_comesHome_101 rfl rfl ?_
        refine r_iconst dX9_comesHome_103 rfl ki_4 ?_
        refine r_irem dX9_comesHome_104 rfl h (fun h => ?_)
        obtain ⟨r25, σ24, hc, h⟩ := bi_of h
        refine r_callV [.int (x6 / (4 : Int32)), .int (x6 - x6 / (4 : Int32) * (4 : Int32))] [] [.int r25]  (coX9_goes σ23 (x6 / (4 : Int32)) (x6 - x6 / (4 : Int32) * (4 : Int32)) r25 σ24 hc) mv_RX9_221 (by decide) rfl rfl rfl rfl rfl (Nat.le_of_ble_eq_true rfl) rfl dX9_comesHome_105 rfl ?_
        refine r_if_eq dX9_comesHome_108 rfl rfl h (fun c h => ?_) (fun c h => ?_)
        · refine r_iconst dX9_comesHome_128 rfl ki_0 ?_
          refine r_istoreV [(4, .int (0 : Int32)), (0, .ref (xad X 0)), (1, .int x1), (2, .int x2), (3, .int x3), (5, .int x5), (6, .int x6)] dX9_comesHome_129 rfl (show 4 < 7 by decide) rfl ?_
          refine r_iinc 6 (fun x_26 => [(6, .int x_26), (4, .int (0 : Int32)), (0, .ref (xad X 0)), (1, .int x1), (2, .int x2), (3, .int x3), (5, .int x5)]) dX9_comesHome_131 rfl rfl ki_1 (show 6 < 7 by decide) (fun _ => rfl) h (fun x_26 h => ?_)
          refine r_goto dX9_comesHome_134 rfl ?_
          refine r_sub [2, 3, 4, 5, 1, 6, 0] rfl ?_
          exact hr70 σ24 x1 x2 x3 (0 : Int32) x5 x_26 h
        · refine r_aload_n 0 dX9_comesHome_111 rfl rfl rfl ?_
          refine r_getR fg_RX9_19 rfl rfl dX9_comesHome_112 rfl ?_
          refine r_iload_n 1 dX9_comesHome_115 rfl rfl rfl ?_
          refine r_iald rfl dX9_comesHome_116 rfl h (fun j27 h => ?_)
          refine r_bipush dX9_comesHome_117 rfl kb_m20 ?_
          refine r_iload_n 2 dX9_comesHome_119 rfl rfl rfl ?_
          refine r_isub dX9_comesHome_120 rfl ?_
          refine r_icmp_ne dX9_comesHome_121 rfl rfl h (fun c h => ?_) (fun c h => ?_)
          · refine r_iconst dX9_comesHome_128 rfl ki_0 ?_
            refine r_istoreV [(4, .int (0 : Int32)), (0, .ref (xad X 0)), (1, .int x1), (2, .int x2), (3, .int x3), (5, .int x5), (6, .int x6)] dX9_comesHome_129 rfl (show 4 < 7 by decide) rfl ?_
            refine r_iinc 6 (fun x_28 => [(6, .int x_28), (4, .int (0 : Int32)), (0, .ref (xad X 0)), (1, .int x1), (2, .int x2), (3, .int x3), (5, .int x5)]) dX9_comesHome_131 rfl rfl ki_1 (show 6 < 7 by decide) (fun _ => rfl) h (fun x_28 h => ?_)
            refine r_goto dX9_comesHome_134 rfl ?_
            refine r_sub [2, 3, 4, 5, 1, 6, 0] rfl ?_
            exact hr70 σ24 x1 x2 x3 (0 : Int32) x5 x_28 h
          · refine r_iconst dX9_comesHome_124 rfl ki_1 ?_
            refine r_goto dX9_comesHome_125 rfl ?_
            refine r_istoreV [(4, .int (1 : Int32)), (0, .ref (xad X 0)), (1, .int x1), (2, .int x2), (3, .int x3), (5, .int x5), (6, .int x6)] dX9_comesHome_129 rfl (show 4 < 7 by decide) rfl ?_
            refine r_iinc 6 (fun x_29 => [(6, .int x_29), (4, .int (1 : Int32)), (0, .ref (xad X 0)), (1, .int x1), (2, .int x2), (3, .int x3), (5, .int x5)]) dX9_comesHome_131 rfl rfl ki_1 (show 6 < 7 by decide) (fun _ => rfl) h (fun x_29 h => ?_)
            refine r_goto dX9_comesHome_134 rfl ?_
            refine r_sub [2, 3, 4, 5, 1, 6, 0] rfl ?_
            exact hr70 σ24 x1 x2 x3 (1 : Int32) x5 x_29 h
noncomputable def FX9_comesHome_70 (rl6 : Mem → Int32 → Int32 → Int32 → Int32 → Int32 → Option (Int32 × Mem)) (n : Nat) : Mem → Int32 → Int32 → Int32 → Int32 → Int32 → Int32 → Option (Int32 × Mem) :=
  Nat.rec (fun _ _ _ _ _ _ _ => none) (fun _ ih => BX9_comesHome_70 rl6 ih) n
theorem lX9_comesHome_70 {X : CX} {out : Int32 × Mem} (hE : Ends X SM (some (.int out.1)) out.2) (rl6 : Mem → Int32 → Int32 → Int32 → Int32 → Int32 → Option (Int32 × Mem)) (hr6 : ∀ (σ : Mem) (x1 : Int32) (x2 : Int32) (x3 : Int32) (x4 : Int32) (x5 : Int32), rl6 σ x1 x2 x3 x4 x5 = some out → J X SM mX9_comesHome σ 6 [(0, .ref (xad X 0)), (1, .int x1), (2, .int x2), (3, .int x3), (4, .int x4), (5, .int x5)] []) : ∀ (n : Nat) (σ : Mem) (x1 : Int32) (x2 : Int32) (x3 : Int32) (x4 : Int32) (x5 : Int32) (x6 : Int32), FX9_comesHome_70 rl6 n σ x1 x2 x3 x4 x5 x6 = some out → J X SM mX9_comesHome σ 70 [(0, .ref (xad X 0)), (1, .int x1), (2, .int x2), (3, .int x3), (4, .int x4), (5, .int x5), (6, .int x6)] [] := by
  intro n
  induction n with
  | zero => intro σ x1 x2 x3 x4 x5 x6 h; exact nn h
  | succ n ih => intro σ x1 x2 x3 x4 x5 x6 h; exact jX9_comesHome_70 hE rl6 hr6 (FX9_comesHome_70 rl6 n) ih σ x1 x2 x3 x4 x5 x6 h
noncomputable def BX9_comesHome_6 (rl6 : Mem → Int32 → Int32 → Int32 → Int32 → Int32 → Option (Int32 × Mem)) (σ : Mem) (x1 : Int32) (x2 : Int32) (x3 : Int32) (x4 : Int32) (x5 : Int32) : Option (Int32 × Mem) :=
  if ((4 : Int32) * (σ.1 0 3)) ≤ x5 then
  (bv (FX9_give σ (0 : Int32)) fun σ30 =>
  rz x4 σ30)
  else
  (if x4 = 0 then
  (bv (FX9_give σ (0 : Int32)) fun σ32 =>
  dzI (4 : Int32) <|
  dzI (4 : Int32) <|
  bi (FX9_goes σ32 (x5 / (4 : Int32)) (x5 - x5 / (4 : Int32) * (4 : Int32))) fun r34 σ33 =>
  if r34 = 0 then
  (nm (x5 + (1 : Int32)) fun x_35 =>
  rl6 σ33 x1 x2 x3 x4 x_35)
  else
  (rd x1 6 fun j36 =>
  if (σ33.1 4 j36) = ((-20 : Int32) - x2) then
  (bv (FX9_hold σ33 (1 : Int32)) fun σ38 =>
  FX9_comesHome_70 rl6 FU σ38 x1 x2 x3 (1 : Int32) x5 (0 : Int32))
  else
  (bv (FX9_hold σ33 (1 : Int32)) fun σ37 =>
  FX9_comesHome_70 rl6 FU σ37 x1 x2 x3 (0 : Int32) x5 (0 : Int32))))
  else
  (bv (FX9_give σ (0 : Int32)) fun σ31 =>
  rz x4 σ31))
set_option maxHeartbeats 4000000 in
set_option maxRecDepth 100000 in
theorem jX9_comesHome_6 {X : CX} {out : Int32 × Mem} (hE : Ends X SM (some (.int out.1)) out.2) (rl6 : Mem → Int32 → Int32 → Int32 → Int32 → Int32 → Option (Int32 × Mem)) (hr6 : ∀ (σ : Mem) (x1 : Int32) (x2 : Int32) (x3 : Int32) (x4 : Int32) (x5 : Int32), rl6 σ x1 x2 x3 x4 x5 = some out → J X SM mX9_comesHome σ 6 [(0, .ref (xad X 0)), (1, .int x1), (2, .int x2), (3, .int x3), (4, .int x4), (5, .int x5)] []) (σ : Mem) (x1 : Int32) (x2 : Int32) (x3 : Int32) (x4 : Int32) (x5 : Int32) (h : BX9_comesHome_6 rl6 σ x1 x2 x3 x4 x5 = some out) : J X SM mX9_comesHome σ 6 [(0, .ref (xad X 0)), (1, .int x1), (2, .int x2), (3, .int x3), (4, .int x4), (5, .int x5)] [] := by
  refine r_iload 5 dX9_comesHome_6 rfl rfl ?_
  refine r_iconst dX9_comesHome_8 rfl ki_4 ?_
  refine r_aload_n 0 dX9_comesHome_9 rfl rfl rfl ?_
  refine r_getI fg_RX9_179 rfl rfl dX9_comesHome_10 rfl ?_
  refine r_imul dX9_comesHome_13 rfl ?_
  refine r_icmp_ge dX9_comesHome_14 rfl rfl h (fun c h => ?_) (fun c h => ?_)
  · refine r_aload_n 0 dX9_comesHome_143 rfl rfl rfl ?_
    refine r_iconst dX9_comesHome_144 rfl ki_0 ?_
    obtain ⟨σ30, hc, h⟩ := bv_of h
    refine r_callV [.int (0 : Int32)] [] []  (coX9_give σ (0 : Int32) σ30 hc) mv_RX9_227 (by decide) rfl rfl rfl rfl rfl (Nat.le_of_ble_eq_true rfl) rfl dX9_comesHome_145 rfl ?_
    refine r_iload 4 dX9_comesHome_148 rfl rfl ?_
    exact r_zret rfl dX9_comesHome_150 h hE
  · refine r_iload 4 dX9_comesHome_17 rfl rfl ?_
    refine r_if_ne dX9_comesHome_19 rfl rfl h (fun c h => ?_) (fun c h => ?_)
    · refine r_aload_n 0 dX9_comesHome_143 rfl rfl rfl ?_
      refine r_iconst dX9_comesHome_144 rfl ki_0 ?_
      obtain ⟨σ31, hc, h⟩ := bv_of h
      refine r_callV [.int (0 : Int32)] [] []  (coX9_give σ (0 : Int32) σ31 hc) mv_RX9_227 (by decide) rfl rfl rfl rfl rfl (Nat.le_of_ble_eq_true rfl) rfl dX9_comesHome_145 rfl ?_
      refine r_iload 4 dX9_comesHome_148 rfl rfl ?_
      exact r_zret rfl dX9_comesHome_150 h hE
    · refine r_aload_n 0 dX9_comesHome_22 rfl rfl rfl ?_
      refine r_iconst dX9_comesHome_23 rfl ki_0 ?_
      obtain ⟨σ32, hc, h⟩ := bv_of h
      refine r_callV [.int (0 : Int32)] [] []  (coX9_give σ (0 : Int32) σ32 hc) mv_RX9_227 (by decide) rfl rfl rfl rfl rfl (Nat.le_of_ble_eq_true rfl) rfl dX9_comesHome_24 rfl ?_
      refine r_aload_n 0 dX9_comesHome_27 rfl rfl rfl ?_
      refine r_iload 5 dX9_comesHome_28 rfl rfl ?_
      refine r_iconst dX9_comesHome_30 rfl ki_4 ?_
      refine r_idiv dX9_comesHome_31 rfl h (fun h => ?_)
      refine r_iload 5 dX9_comesHome_32 rfl rfl ?_
      refine r_iconst dX9_comesHome_34 rfl ki_4 ?_
      refine r_irem dX9_comesHome_35 rfl h (fun h => ?_)
      obtain ⟨r34, σ33, hc, h⟩ := bi_of h
      refine r_callV [.int (x5 / (4 : Int32)), .int (x5 - x5 / (4 : Int32) * (4 : Int32))] [] [.int r34]  (coX9_goes σ32 (x5 / (4 : Int32)) (x5 - x5 / (4 : Int32) * (4 : Int32)) r34 σ33 hc) mv_RX9_221 (by decide) rfl rfl rfl rfl rfl (Nat.le_of_ble_eq_true rfl) rfl dX9_comesHome_36 rfl ?_
      refine r_if_eq dX9_comesHome_39 rfl rfl h (fun c h => ?_) (fun c h => ?_)
      · refine r_iinc 5 (fun x_35 => [(5, .int x_35), (0, .ref (xad X 0)), (1, .int x1), (2, .int x2), (3, .int x3), (4, .int x4)]) dX9_comesHome_137 rfl rfl ki_1 (show 5 < 7 by decide) (fun _ => rfl) h (fun x_35 h => ?_)
        refine r_goto dX9_comesHome_140 rfl ?_
        refine r_sub [1, 2, 3, 4, 5, 0] rfl ?_
        exact hr6 σ33 x1 x2 x3 x4 x_35 h
      · refine r_aload_n 0 dX9_comesHome_42 rfl rfl rfl ?_
        refine r_getR fg_RX9_19 rfl rfl dX9_comesHome_43 rfl ?_
        refine r_iload_n 1 dX9_comesHome_46 rfl rfl rfl ?_
        refine r_iald rfl dX9_comesHome_47 rfl h (fun j36 h => ?_)
        refine r_bipush dX9_comesHome_48 rfl kb_m20 ?_
        refine r_iload_n 2 dX9_comesHome_50 rfl rfl rfl ?_
        refine r_isub dX9_comesHome_51 rfl ?_
        refine r_icmp_ne dX9_comesHome_52 rfl rfl h (fun c h => ?_) (fun c h => ?_)
        · refine r_iconst dX9_comesHome_59 rfl ki_0 ?_
          refine r_istoreV [(4, .int (0 : Int32)), (0, .ref (xad X 0)), (1, .int x1), (2, .int x2), (3, .int x3), (5, .int x5)] dX9_comesHome_60 rfl (show 4 < 7 by decide) rfl ?_
          refine r_aload_n 1 dX9_comesHome_62 rfl rfl rfl ?_
          refine r_iconst dX9_comesHome_63 rfl ki_1 ?_
          obtain ⟨σ37, hc, h⟩ := bv_of h
          refine r_callV [.int (1 : Int32)] [] []  (coX9_hold σ33 (1 : Int32) σ37 hc) mv_RX9_217 (by decide) rfl rfl rfl rfl rfl (Nat.le_of_ble_eq_true rfl) rfl dX9_comesHome_64 rfl ?_
          refine r_iconst dX9_comesHome_67 rfl ki_0 ?_
          refine r_istoreV [(6, .int (0 : Int32)), (4, .int (0 : Int32)), (0, .ref (xad X 0)), (1, .int x1), (2, .int x2), (3, .int x3), (5, .int x5)] dX9_comesHome_68 rfl (show 6 < 7 by decide) rfl ?_
          refine r_sub [2, 3, 4, 5, 1, 6, 0] rfl ?_
          exact lX9_comesHome_70 hE rl6 hr6 FU σ37 x1 x2 x3 (0 : Int32) x5 (0 : Int32) h
        · refine r_iconst dX9_comesHome_55 rfl ki_1 ?_
          refine r_goto dX9_comesHome_56 rfl ?_
          refine r_istoreV [(4, .int (1 : Int32)), (0, .ref (xad X 0)), (1, .int x1), (2, .int x2), (3, .int x3), (5, .int x5)] dX9_comesHome_60 rfl (show 4 < 7 by decide) rfl ?_
          refine r_aload_n 1 dX9_comesHome_62 rfl rfl rfl ?_
          refine r_iconst dX9_comesHome_63 rfl ki_1 ?_
          obtain ⟨σ38, hc, h⟩ := bv_of h
          refine r_callV [.int (1 : Int32)] [] []  (coX9_hold σ33 (1 : Int32) σ38 hc) mv_RX9_217 (by decide) rfl rfl rfl rfl rfl (Nat.le_of_ble_eq_true rfl) rfl dX9_comesHome_64 rfl ?_
          refine r_iconst dX9_comesHome_67 rfl ki_0 ?_
          refine r_istoreV [(6, .int (0 : Int32)), (4, .int (1 : Int32)), (0, .ref (xad X 0)), (1, .int x1), (2, .int x2), (3, .int x3), (5, .int x5)] dX9_comesHome_68 rfl (show 6 < 7 by decide) rfl ?_
          refine r_sub [2, 3, 4, 5, 1, 6, 0] rfl ?_
          exact lX9_comesHome_70 hE rl6 hr6 FU σ38 x1 x2 x3 (1 : Int32) x5 (0 : Int32) h
noncomputable def FX9_comesHome_6 (n : Nat) : Mem → Int32 → Int32 → Int32 → Int32 → Int32 → Option (Int32 × Mem) :=
  Nat.rec (fun _ _ _ _ _ _ => none) (fun _ ih => BX9_comesHome_6 ih) n
theorem lX9_comesHome_6 {X : CX} {out : Int32 × Mem} (hE : Ends X SM (some (.int out.1)) out.2) : ∀ (n : Nat) (σ : Mem) (x1 : Int32) (x2 : Int32) (x3 : Int32) (x4 : Int32) (x5 : Int32), FX9_comesHome_6 n σ x1 x2 x3 x4 x5 = some out → J X SM mX9_comesHome σ 6 [(0, .ref (xad X 0)), (1, .int x1), (2, .int x2), (3, .int x3), (4, .int x4), (5, .int x5)] [] := by
  intro n
  induction n with
  | zero => intro σ x1 x2 x3 x4 x5 h; exact nn h
  | succ n ih => intro σ x1 x2 x3 x4 x5 h; exact jX9_comesHome_6 hE (FX9_comesHome_6 n) ih σ x1 x2 x3 x4 x5 h
noncomputable def FX9_comesHome (σ : Mem) (a1 : Int32) (a2 : Int32) (a3 : Int32) : Option (Int32 × Mem) :=
  FX9_comesHome_6 FU σ a1 a2 a3 (0 : Int32) (0 : Int32)
set_option maxHeartbeats 4000000 in
set_option maxRecDepth 100000 in
theorem eX9_comesHome {X : CX} {out : Int32 × Mem} (hE : Ends X SM (some (.int out.1)) out.2) (σ : Mem) (a1 : Int32) (a2 : Int32) (a3 : Int32) (h : FX9_comesHome σ a1 a2 a3 = some out) : J X SM mX9_comesHome σ 0 [(0, .ref (xad X 0)), (1, .int a1), (2, .int a2), (3, .int a3)] [] := by
  refine r_iconst dX9_comesHome_0 rfl ki_0 ?_
  refine r_istoreV [(4, .int (0 : Int32)), (0, .ref (xad X 0)), (1, .int a1), (2, .int a2), (3, .int a3)] dX9_comesHome_1 rfl (show 4 < 7 by decide) rfl ?_
  refine r_iconst dX9_comesHome_3 rfl ki_0 ?_
  refine r_istoreV [(5, .int (0 : Int32)), (4, .int (0 : Int32)), (0, .ref (xad X 0)), (1, .int a1), (2, .int a2), (3, .int a3)] dX9_comesHome_4 rfl (show 5 < 7 by decide) rfl ?_
  refine r_sub [2, 3, 4, 5, 1, 0] rfl ?_
  exact lX9_comesHome_6 hE FU σ a1 a2 a3 (0 : Int32) (0 : Int32) h
theorem coX9_comesHome (σ : Mem) (a1 : Int32) (a2 : Int32) (a3 : Int32) (r : Int32) (σ2 : Mem) (h : FX9_comesHome σ a1 a2 a3 = some (r, σ2)) : Con SM 5 yX9_comesHome cX9_comesHome 7 (some .boolean) (fun ad => [.ref (ad 0), .int a1, .int a2, .int a3]) σ (fun _ => some (.int r)) σ2 :=
  con_of (by decide +kernel) (fun _ => Nat.le_of_ble_eq_true rfl) (fun X hE => eX9_comesHome (out := (r, σ2)) hE σ a1 a2 a3 h)
-- IceYardModel isBeyond
abbrev mX9_isBeyond : MD := (cX9_isBeyond, RX9, 4, (some .boolean), 1)
noncomputable def FX9_isBeyond (σ : Mem) (a0 : Int32) (a1 : Int64) (a3 : Int32) : Option (Int32 × Mem) :=
  if a0 < 0 then
  (rz (1 : Int32) σ)
  else
  (if (lg_cmp a1 (0 : Int64)) < 0 then
  (rz (1 : Int32) σ)
  else
  (if (lg_cmp (((a0).toInt64) + a1) ((a3).toInt64)) ≤ 0 then
  (rz (0 : Int32) σ)
  else
  (rz (1 : Int32) σ)))
set_option maxHeartbeats 4000000 in
set_option maxRecDepth 100000 in
theorem eX9_isBeyond {X : CX} {out : Int32 × Mem} (hE : Ends X SM (some (.int out.1)) out.2) (σ : Mem) (a0 : Int32) (a1 : Int64) (a3 : Int32) (h : FX9_isBeyond σ a0 a1 a3 = some out) : J X SM mX9_isBeyond σ 0 [(0, .int a0), (1, .long a1), (3, .int a3)] [] := by
  refine r_iload_n 0 dX9_isBeyond_0 rfl rfl rfl ?_
  refine r_if_lt dX9_isBeyond_1 rfl rfl h (fun c h => ?_) (fun c h => ?_)
  · refine r_iconst dX9_isBeyond_20 rfl ki_1 ?_
    refine r_goto dX9_isBeyond_21 rfl ?_
    exact r_zret rfl dX9_isBeyond_25 h hE
  · refine r_lload_n 1 dX9_isBeyond_4 rfl rfl rfl ?_
    refine r_lconst dX9_isBeyond_5 rfl kl_0 ?_
    refine r_lcmp dX9_isBeyond_6 rfl ?_
    refine r_if_lt dX9_isBeyond_7 rfl rfl h (fun c h => ?_) (fun c h => ?_)
    · refine r_iconst dX9_isBeyond_20 rfl ki_1 ?_
      refine r_goto dX9_isBeyond_21 rfl ?_
      exact r_zret rfl dX9_isBeyond_25 h hE
    · refine r_iload_n 0 dX9_isBeyond_10 rfl rfl rfl ?_
      refine r_i2l dX9_isBeyond_11 rfl ?_
      refine r_lload_n 1 dX9_isBeyond_12 rfl rfl rfl ?_
      refine r_ladd dX9_isBeyond_13 rfl ?_
      refine r_iload_n 2 dX9_isBeyond_14 rfl rfl rfl ?_
      refine r_i2l dX9_isBeyond_15 rfl ?_
      refine r_lcmp dX9_isBeyond_16 rfl ?_
      refine r_if_le dX9_isBeyond_17 rfl rfl h (fun c h => ?_) (fun c h => ?_)
      · refine r_iconst dX9_isBeyond_24 rfl ki_0 ?_
        exact r_zret rfl dX9_isBeyond_25 h hE
      · refine r_iconst dX9_isBeyond_20 rfl ki_1 ?_
        refine r_goto dX9_isBeyond_21 rfl ?_
        exact r_zret rfl dX9_isBeyond_25 h hE
theorem coX9_isBeyond (σ : Mem) (a0 : Int32) (a1 : Int64) (a3 : Int32) (r : Int32) (σ2 : Mem) (h : FX9_isBeyond σ a0 a1 a3 = some (r, σ2)) : Con SM 1 yX9_isBeyond cX9_isBeyond 4 (some .boolean) (fun ad => [.int a0, .long a1, .int a3]) σ (fun _ => some (.int r)) σ2 :=
  con_of (by decide +kernel) (fun _ => Nat.le_of_ble_eq_true rfl) (fun X hE => eX9_isBeyond (out := (r, σ2)) hE σ a0 a1 a3 h)
-- IceYardModel copy
abbrev mX9_copy : MD := (cX9_copy, RX9, 7, (some .int), 3)
noncomputable def BX9_copy_144 (rl144 : Mem → Int32 → Int32 → Int32 → Int32 → Option (Int32 × Mem)) (σ : Mem) (x3 : Int32) (x4 : Int32) (x5 : Int32) (x6 : Int32) : Option (Int32 × Mem) :=
  if x5 ≤ x6 then
  (bi (FX9_refused σ x5) fun r38 σ37 =>
  some (r38, σ37))
  else
  (rd x6 60 fun j39 =>
  stI σ 30 240 ((((60 : Int32) * x3) + x4) + x6) (σ.1 31 j39) fun σ40 =>
  nm (x6 + (1 : Int32)) fun x_41 =>
  rl144 σ40 x3 x4 x5 x_41)
set_option maxHeartbeats 4000000 in
set_option maxRecDepth 100000 in
theorem jX9_copy_144 {X : CX} {out : Int32 × Mem} (hE : Ends X SM (some (.int out.1)) out.2) (rl144 : Mem → Int32 → Int32 → Int32 → Int32 → Option (Int32 × Mem)) (hr144 : ∀ (σ : Mem) (x3 : Int32) (x4 : Int32) (x5 : Int32) (x6 : Int32), rl144 σ x3 x4 x5 x6 = some out → J X SM mX9_copy σ 144 [(0, .ref (xad X 0)), (3, .int x3), (4, .int x4), (5, .int x5), (6, .int x6)] []) (σ : Mem) (x3 : Int32) (x4 : Int32) (x5 : Int32) (x6 : Int32) (h : BX9_copy_144 rl144 σ x3 x4 x5 x6 = some out) : J X SM mX9_copy σ 144 [(0, .ref (xad X 0)), (3, .int x3), (4, .int x4), (5, .int x5), (6, .int x6)] [] := by
  refine r_iload 4 dX9_copy_144 rfl rfl ?_
  refine r_iload 3 dX9_copy_146 rfl rfl ?_
  refine r_icmp_ge dX9_copy_148 rfl rfl h (fun c h => ?_) (fun c h => ?_)
  · refine r_aload_n 0 dX9_copy_179 rfl rfl rfl ?_
    refine r_iload 3 dX9_copy_180 rfl rfl ?_
    obtain ⟨r38, σ37, hc, h⟩ := bi_of h
    refine r_callV [.int x5] [] [.int r38]  (coX9_refused σ x5 r38 σ37 hc) mv_RX9_163 (by decide) rfl rfl rfl rfl rfl (Nat.le_of_ble_eq_true rfl) rfl dX9_copy_182 rfl ?_
    exact r_iret rfl dX9_copy_185 h hE
  · refine r_aload_n 0 dX9_copy_151 rfl rfl rfl ?_
    refine r_getR fg_RX9_99 rfl rfl dX9_copy_152 rfl ?_
    refine r_bipush dX9_copy_155 rfl kb_60 ?_
    refine r_iload_n 1 dX9_copy_157 rfl rfl rfl ?_
    refine r_imul dX9_copy_158 rfl ?_
    refine r_iload 2 dX9_copy_159 rfl rfl ?_
    refine r_iadd dX9_copy_161 rfl ?_
    refine r_iload 4 dX9_copy_162 rfl rfl ?_
    refine r_iadd dX9_copy_164 rfl ?_
    refine r_aload_n 0 dX9_copy_165 rfl rfl rfl ?_
    refine r_getR fg_RX9_102 rfl rfl dX9_copy_166 rfl ?_
    refine r_iload 4 dX9_copy_169 rfl rfl ?_
    refine r_iald rfl dX9_copy_171 rfl h (fun j39 h => ?_)
    refine r_iast rfl dX9_copy_172 rfl h (fun σ40 h => ?_)
    refine r_iinc 4 (fun x_41 => [(6, .int x_41), (0, .ref (xad X 0)), (3, .int x3), (4, .int x4), (5, .int x5)]) dX9_copy_173 rfl rfl ki_1 (show 6 < 7 by decide) (fun _ => rfl) h (fun x_41 h => ?_)
    refine r_goto dX9_copy_176 rfl ?_
    refine r_sub [1, 2, 3, 4, 0] rfl ?_
    exact hr144 σ40 x3 x4 x5 x_41 h
noncomputable def FX9_copy_144 (n : Nat) : Mem → Int32 → Int32 → Int32 → Int32 → Option (Int32 × Mem) :=
  Nat.rec (fun _ _ _ _ _ => none) (fun _ ih => BX9_copy_144 ih) n
theorem lX9_copy_144 {X : CX} {out : Int32 × Mem} (hE : Ends X SM (some (.int out.1)) out.2) : ∀ (n : Nat) (σ : Mem) (x3 : Int32) (x4 : Int32) (x5 : Int32) (x6 : Int32), FX9_copy_144 n σ x3 x4 x5 x6 = some out → J X SM mX9_copy σ 144 [(0, .ref (xad X 0)), (3, .int x3), (4, .int x4), (5, .int x5), (6, .int x6)] [] := by
  intro n
  induction n with
  | zero => intro σ x3 x4 x5 x6 h; exact nn h
  | succ n ih => intro σ x3 x4 x5 x6 h; exact jX9_copy_144 hE (FX9_copy_144 n) ih σ x3 x4 x5 x6 h
noncomputable def BX9_copy_107 (rl107 : Mem → Int32 → Int32 → Int32 → Int32 → Int32 → Int32 → Option (Int32 × Mem)) (σ : Mem) (x1 : Int32) (x2 : Int32) (x3 : Int32) (x4 : Int32) (x5 : Int32) (x6 : Int32) : Option (Int32 × Mem) :=
  if x5 ≤ x6 then
  (FX9_copy_144 FU σ x3 x4 x5 (0 : Int32))
  else
  (rd ((((60 : Int32) * x1) + x2) + x6) 240 fun j42 =>
  stI σ 31 60 x6 (σ.1 30 j42) fun σ43 =>
  nm (x6 + (1 : Int32)) fun x_44 =>
  rl107 σ43 x1 x2 x3 x4 x5 x_44)
set_option maxHeartbeats 4000000 in
set_option maxRecDepth 100000 in
theorem jX9_copy_107 {X : CX} {out : Int32 × Mem} (hE : Ends X SM (some (.int out.1)) out.2) (rl107 : Mem → Int32 → Int32 → Int32 → Int32 → Int32 → Int32 → Option (Int32 × Mem)) (hr107 : ∀ (σ : Mem) (x1 : Int32) (x2 : Int32) (x3 : Int32) (x4 : Int32) (x5 : Int32) (x6 : Int32), rl107 σ x1 x2 x3 x4 x5 x6 = some out → J X SM mX9_copy σ 107 [(0, .ref (xad X 0)), (1, .int x1), (2, .int x2), (3, .int x3), (4, .int x4), (5, .int x5), (6, .int x6)] []) (σ : Mem) (x1 : Int32) (x2 : Int32) (x3 : Int32) (x4 : Int32) (x5 : Int32) (x6 : Int32) (h : BX9_copy_107 rl107 σ x1 x2 x3 x4 x5 x6 = some out) : J X SM mX9_copy σ 107 [(0, .ref (xad X 0)), (1, .int x1), (2, .int x2), (3, .int x3), (4, .int x4), (5, .int x5), (6, .int x6)] [] := by
  refine r_iload 6 dX9_copy_107 rfl rfl ?_
  refine r_iload 5 dX9_copy_109 rfl rfl ?_
  refine r_icmp_ge dX9_copy_111 rfl rfl h (fun c h => ?_) (fun c h => ?_)
  · refine r_iconst dX9_copy_141 rfl ki_0 ?_
    refine r_istoreV [(6, .int (0 : Int32)), (0, .ref (xad X 0)), (1, .int x1), (2, .int x2), (3, .int x3), (4, .int x4), (5, .int x5)] dX9_copy_142 rfl (show 6 < 7 by decide) rfl ?_
    refine r_sub [1, 4, 5, 6, 0] rfl ?_
    exact lX9_copy_144 hE FU σ x3 x4 x5 (0 : Int32) h
  · refine r_aload_n 0 dX9_copy_114 rfl rfl rfl ?_
    refine r_getR fg_RX9_102 rfl rfl dX9_copy_115 rfl ?_
    refine r_iload 6 dX9_copy_118 rfl rfl ?_
    refine r_aload_n 0 dX9_copy_120 rfl rfl rfl ?_
    refine r_getR fg_RX9_99 rfl rfl dX9_copy_121 rfl ?_
    refine r_bipush dX9_copy_124 rfl kb_60 ?_
    refine r_iload_n 1 dX9_copy_126 rfl rfl rfl ?_
    refine r_imul dX9_copy_127 rfl ?_
    refine r_iload_n 2 dX9_copy_128 rfl rfl rfl ?_
    refine r_iadd dX9_copy_129 rfl ?_
    refine r_iload 6 dX9_copy_130 rfl rfl ?_
    refine r_iadd dX9_copy_132 rfl ?_
    refine r_iald rfl dX9_copy_133 rfl h (fun j42 h => ?_)
    refine r_iast rfl dX9_copy_134 rfl h (fun σ43 h => ?_)
    refine r_iinc 6 (fun x_44 => [(6, .int x_44), (0, .ref (xad X 0)), (1, .int x1), (2, .int x2), (3, .int x3), (4, .int x4), (5, .int x5)]) dX9_copy_135 rfl rfl ki_1 (show 6 < 7 by decide) (fun _ => rfl) h (fun x_44 h => ?_)
    refine r_goto dX9_copy_138 rfl ?_
    refine r_sub [1, 2, 3, 4, 5, 6, 0] rfl ?_
    exact hr107 σ43 x1 x2 x3 x4 x5 x_44 h
noncomputable def FX9_copy_107 (n : Nat) : Mem → Int32 → Int32 → Int32 → Int32 → Int32 → Int32 → Option (Int32 × Mem) :=
  Nat.rec (fun _ _ _ _ _ _ _ => none) (fun _ ih => BX9_copy_107 ih) n
theorem lX9_copy_107 {X : CX} {out : Int32 × Mem} (hE : Ends X SM (some (.int out.1)) out.2) : ∀ (n : Nat) (σ : Mem) (x1 : Int32) (x2 : Int32) (x3 : Int32) (x4 : Int32) (x5 : Int32) (x6 : Int32), FX9_copy_107 n σ x1 x2 x3 x4 x5 x6 = some out → J X SM mX9_copy σ 107 [(0, .ref (xad X 0)), (1, .int x1), (2, .int x2), (3, .int x3), (4, .int x4), (5, .int x5), (6, .int x6)] [] := by
  intro n
  induction n with
  | zero => intro σ x1 x2 x3 x4 x5 x6 h; exact nn h
  | succ n ih => intro σ x1 x2 x3 x4 x5 x6 h; exact jX9_copy_107 hE (FX9_copy_107 n) ih σ x1 x2 x3 x4 x5 x6 h
noncomputable def FX9_copy (σ : Mem) (a1 : Int32) (a2 : Int32) (a3 : Int32) (a4 : Int32) (a5 : Int32) : Option (Int32 × Mem) :=
  bi (FX9_noSheet σ a1) fun r46 σ45 =>
  if r46 = 0 then
  (bi (FX9_noSheet σ45 a3) fun r50 σ49 =>
  if r50 = 0 then
  (rd a1 4 fun j51 =>
  if (σ49.1 28 j51) < 0 then
  (bi (FX9_failed σ49 (1 : Int32)) fun r53 σ52 =>
  some (r53, σ52))
  else
  (rd a3 4 fun j54 =>
  if 0 ≤ (σ49.1 28 j54) then
  (rd a1 4 fun j55 =>
  rd a3 4 fun j56 =>
  if (σ49.1 29 j55) = (σ49.1 29 j56) then
  (rd a1 4 fun j57 =>
  bi (FX9_isBeyond σ49 a2 ((a5).toInt64) (σ49.1 28 j57)) fun r59 σ58 =>
  if r59 = 0 then
  (rd a3 4 fun j62 =>
  bi (FX9_isBeyond σ58 a4 ((a5).toInt64) (σ58.1 28 j62)) fun r64 σ63 =>
  if r64 = 0 then
  (FX9_copy_107 FU σ63 a1 a2 a3 a4 a5 (0 : Int32))
  else
  (bi (FX9_failed σ63 (3 : Int32)) fun r66 σ65 =>
  some (r66, σ65)))
  else
  (bi (FX9_failed σ58 (3 : Int32)) fun r61 σ60 =>
  some (r61, σ60)))
  else
  (bi (FX9_failed σ49 (2 : Int32)) fun r68 σ67 =>
  some (r68, σ67)))
  else
  (bi (FX9_failed σ49 (1 : Int32)) fun r70 σ69 =>
  some (r70, σ69))))
  else
  (bi (FX9_refused σ49 (-1 : Int32)) fun r72 σ71 =>
  some (r72, σ71)))
  else
  (bi (FX9_refused σ45 (-1 : Int32)) fun r48 σ47 =>
  some (r48, σ47))
set_option maxHeartbeats 4000000 in
set_option maxRecDepth 100000 in
theorem eX9_copy {X : CX} {out : Int32 × Mem} (hE : Ends X SM (some (.int out.1)) out.2) (σ : Mem) (a1 : Int32) (a2 : Int32) (a3 : Int32) (a4 : Int32) (a5 : Int32) (h : FX9_copy σ a1 a2 a3 a4 a5 = some out) : J X SM mX9_copy σ 0 [(0, .ref (xad X 0)), (1, .int a1), (2, .int a2), (3, .int a3), (4, .int a4), (5, .int a5)] [] := by
  refine r_iload_n 1 dX9_copy_0 rfl rfl rfl ?_
  obtain ⟨r46, σ45, hc, h⟩ := bi_of h
  refine r_callS [] [.int r46]  (coX9_noSheet σ a1 r46 σ45 hc) ms_RX9_159 (by decide) rfl rfl (Nat.le_of_ble_eq_true rfl) rfl dX9_copy_1 rfl ?_
  refine r_if_ne dX9_copy_4 rfl rfl h (fun c h => ?_) (fun c h => ?_)
  · refine r_aload_n 0 dX9_copy_14 rfl rfl rfl ?_
    refine r_iconst dX9_copy_15 rfl ki_m1 ?_
    obtain ⟨r48, σ47, hc, h⟩ := bi_of h
    refine r_callV [.int (-1 : Int32)] [] [.int r48]  (coX9_refused σ45 (-1 : Int32) r48 σ47 hc) mv_RX9_163 (by decide) rfl rfl rfl rfl rfl (Nat.le_of_ble_eq_true rfl) rfl dX9_copy_16 rfl ?_
    exact r_iret rfl dX9_copy_19 h hE
  · refine r_iload_n 3 dX9_copy_7 rfl rfl rfl ?_
    obtain ⟨r50, σ49, hc, h⟩ := bi_of h
    refine r_callS [] [.int r50]  (coX9_noSheet σ45 a3 r50 σ49 hc) ms_RX9_159 (by decide) rfl rfl (Nat.le_of_ble_eq_true rfl) rfl dX9_copy_8 rfl ?_
    refine r_if_eq dX9_copy_11 rfl rfl h (fun c h => ?_) (fun c h => ?_)
    · refine r_aload_n 0 dX9_copy_20 rfl rfl rfl ?_
      refine r_getR fg_RX9_93 rfl rfl dX9_copy_21 rfl ?_
      refine r_iload_n 1 dX9_copy_24 rfl rfl rfl ?_
      refine r_iald rfl dX9_copy_25 rfl h (fun j51 h => ?_)
      refine r_if_lt dX9_copy_26 rfl rfl h (fun c h => ?_) (fun c h => ?_)
      · refine r_aload_n 0 dX9_copy_38 rfl rfl rfl ?_
        refine r_iconst dX9_copy_39 rfl ki_1 ?_
        obtain ⟨r53, σ52, hc, h⟩ := bi_of h
        refine r_callV [.int (1 : Int32)] [] [.int r53]  (coX9_failed σ49 (1 : Int32) r53 σ52 hc) mv_RX9_168 (by decide) rfl rfl rfl rfl rfl (Nat.le_of_ble_eq_true rfl) rfl dX9_copy_40 rfl ?_
        exact r_iret rfl dX9_copy_43 h hE
      · refine r_aload_n 0 dX9_copy_29 rfl rfl rfl ?_
        refine r_getR fg_RX9_93 rfl rfl dX9_copy_30 rfl ?_
        refine r_iload_n 3 dX9_copy_33 rfl rfl rfl ?_
        refine r_iald rfl dX9_copy_34 rfl h (fun j54 h => ?_)
        refine r_if_ge dX9_copy_35 rfl rfl h (fun c h => ?_) (fun c h => ?_)
        · refine r_aload_n 0 dX9_copy_44 rfl rfl rfl ?_
          refine r_getR fg_RX9_96 rfl rfl dX9_copy_45 rfl ?_
          refine r_iload_n 1 dX9_copy_48 rfl rfl rfl ?_
          refine r_iald rfl dX9_copy_49 rfl h (fun j55 h => ?_)
          refine r_aload_n 0 dX9_copy_50 rfl rfl rfl ?_
          refine r_getR fg_RX9_96 rfl rfl dX9_copy_51 rfl ?_
          refine r_iload_n 3 dX9_copy_54 rfl rfl rfl ?_
          refine r_iald rfl dX9_copy_55 rfl h (fun j56 h => ?_)
          refine r_icmp_eq dX9_copy_56 rfl rfl h (fun c h => ?_) (fun c h => ?_)
          · refine r_iload_n 2 dX9_copy_65 rfl rfl rfl ?_
            refine r_iload 5 dX9_copy_66 rfl rfl ?_
            refine r_i2l dX9_copy_68 rfl ?_
            refine r_aload_n 0 dX9_copy_69 rfl rfl rfl ?_
            refine r_getR fg_RX9_93 rfl rfl dX9_copy_70 rfl ?_
            refine r_iload_n 1 dX9_copy_73 rfl rfl rfl ?_
            refine r_iald rfl dX9_copy_74 rfl h (fun j57 h => ?_)
            obtain ⟨r59, σ58, hc, h⟩ := bi_of h
            refine r_callS [] [.int r59]  (coX9_isBeyond σ49 a2 ((a5).toInt64) (σ49.1 28 j57) r59 σ58 hc) ms_RX9_171 (by decide) rfl rfl (Nat.le_of_ble_eq_true rfl) rfl dX9_copy_75 rfl ?_
            refine r_if_ne dX9_copy_78 rfl rfl h (fun c h => ?_) (fun c h => ?_)
            · refine r_aload_n 0 dX9_copy_98 rfl rfl rfl ?_
              refine r_iconst dX9_copy_99 rfl ki_3 ?_
              obtain ⟨r61, σ60, hc, h⟩ := bi_of h
              refine r_callV [.int (3 : Int32)] [] [.int r61]  (coX9_failed σ58 (3 : Int32) r61 σ60 hc) mv_RX9_168 (by decide) rfl rfl rfl rfl rfl (Nat.le_of_ble_eq_true rfl) rfl dX9_copy_100 rfl ?_
              exact r_iret rfl dX9_copy_103 h hE
            · refine r_iload 4 dX9_copy_81 rfl rfl ?_
              refine r_iload 5 dX9_copy_83 rfl rfl ?_
              refine r_i2l dX9_copy_85 rfl ?_
              refine r_aload_n 0 dX9_copy_86 rfl rfl rfl ?_
              refine r_getR fg_RX9_93 rfl rfl dX9_copy_87 rfl ?_
              refine r_iload_n 3 dX9_copy_90 rfl rfl rfl ?_
              refine r_iald rfl dX9_copy_91 rfl h (fun j62 h => ?_)
              obtain ⟨r64, σ63, hc, h⟩ := bi_of h
              refine r_callS [] [.int r64]  (coX9_isBeyond σ58 a4 ((a5).toInt64) (σ58.1 28 j62) r64 σ63 hc) ms_RX9_171 (by decide) rfl rfl (Nat.le_of_ble_eq_true rfl) rfl dX9_copy_92 rfl ?_
              refine r_if_eq dX9_copy_95 rfl rfl h (fun c h => ?_) (fun c h => ?_)
              · refine r_iconst dX9_copy_104 rfl ki_0 ?_
                refine r_istoreV [(6, .int (0 : Int32)), (0, .ref (xad X 0)), (1, .int a1), (2, .int a2), (3, .int a3), (4, .int a4), (5, .int a5)] dX9_copy_105 rfl (show 6 < 7 by decide) rfl ?_
                refine r_sub [1, 2, 3, 4, 5, 6, 0] rfl ?_
                exact lX9_copy_107 hE FU σ63 a1 a2 a3 a4 a5 (0 : Int32) h
              · refine r_aload_n 0 dX9_copy_98 rfl rfl rfl ?_
                refine r_iconst dX9_copy_99 rfl ki_3 ?_
                obtain ⟨r66, σ65, hc, h⟩ := bi_of h
                refine r_callV [.int (3 : Int32)] [] [.int r66]  (coX9_failed σ63 (3 : Int32) r66 σ65 hc) mv_RX9_168 (by decide) rfl rfl rfl rfl rfl (Nat.le_of_ble_eq_true rfl) rfl dX9_copy_100 rfl ?_
                exact r_iret rfl dX9_copy_103 h hE
          · refine r_aload_n 0 dX9_copy_59 rfl rfl rfl ?_
            refine r_iconst dX9_copy_60 rfl ki_2 ?_
            obtain ⟨r68, σ67, hc, h⟩ := bi_of h
            refine r_callV [.int (2 : Int32)] [] [.int r68]  (coX9_failed σ49 (2 : Int32) r68 σ67 hc) mv_RX9_168 (by decide) rfl rfl rfl rfl rfl (Nat.le_of_ble_eq_true rfl) rfl dX9_copy_61 rfl ?_
            exact r_iret rfl dX9_copy_64 h hE
        · refine r_aload_n 0 dX9_copy_38 rfl rfl rfl ?_
          refine r_iconst dX9_copy_39 rfl ki_1 ?_
          obtain ⟨r70, σ69, hc, h⟩ := bi_of h
          refine r_callV [.int (1 : Int32)] [] [.int r70]  (coX9_failed σ49 (1 : Int32) r70 σ69 hc) mv_RX9_168 (by decide) rfl rfl rfl rfl rfl (Nat.le_of_ble_eq_true rfl) rfl dX9_copy_40 rfl ?_
          exact r_iret rfl dX9_copy_43 h hE
    · refine r_aload_n 0 dX9_copy_14 rfl rfl rfl ?_
      refine r_iconst dX9_copy_15 rfl ki_m1 ?_
      obtain ⟨r72, σ71, hc, h⟩ := bi_of h
      refine r_callV [.int (-1 : Int32)] [] [.int r72]  (coX9_refused σ49 (-1 : Int32) r72 σ71 hc) mv_RX9_163 (by decide) rfl rfl rfl rfl rfl (Nat.le_of_ble_eq_true rfl) rfl dX9_copy_16 rfl ?_
      exact r_iret rfl dX9_copy_19 h hE
theorem coX9_copy (σ : Mem) (a1 : Int32) (a2 : Int32) (a3 : Int32) (a4 : Int32) (a5 : Int32) (r : Int32) (σ2 : Mem) (h : FX9_copy σ a1 a2 a3 a4 a5 = some (r, σ2)) : Con SM 3 yX9_copy cX9_copy 7 (some .int) (fun ad => [.ref (ad 0), .int a1, .int a2, .int a3, .int a4, .int a5]) σ (fun _ => some (.int r)) σ2 :=
  con_of (by decide +kernel) (fun _ => Nat.le_of_ble_eq_true rfl) (fun X hE => eX9_copy (out := (r, σ2)) hE σ a1 a2 a3 a4 a5 h)
-- IceYardModel cracksOpen
abbrev mX9_cracksOpen : MD := (cX9_cracksOpen, RX9, 3, (some .int), 2)
noncomputable def BX9_cracksOpen_4 (rl4 : Mem → Int32 → Int32 → Option (Int32 × Mem)) (σ : Mem) (x1 : Int32) (x2 : Int32) : Option (Int32 × Mem) :=
  bi (FX9_cells σ) fun r11 σ10 =>
  if r11 ≤ x2 then
  (some (x1, σ10))
  else
  (rd x2 36 fun j12 =>
  if (σ10.1 1 j12) = (3 : Int32) then
  (if (lg_cmp (((σ10.2 0 8) >>> ((x2).toInt64 &&& 63)) &&& (1 : Int64)) (0 : Int64)) = 0 then
  (nm (x1 + (1 : Int32)) fun x_17 =>
  nm (x2 + (1 : Int32)) fun x_18 =>
  rl4 σ10 x_17 x_18)
  else
  (nm (x1 + (0 : Int32)) fun x_15 =>
  nm (x2 + (1 : Int32)) fun x_16 =>
  rl4 σ10 x_15 x_16))
  else
  (nm (x1 + (0 : Int32)) fun x_13 =>
  nm (x2 + (1 : Int32)) fun x_14 =>
  rl4 σ10 x_13 x_14))
set_option maxHeartbeats 4000000 in
set_option maxRecDepth 100000 in
theorem jX9_cracksOpen_4 {X : CX} {out : Int32 × Mem} (hE : Ends X SM (some (.int out.1)) out.2) (rl4 : Mem → Int32 → Int32 → Option (Int32 × Mem)) (hr4 : ∀ (σ : Mem) (x1 : Int32) (x2 : Int32), rl4 σ x1 x2 = some out → J X SM mX9_cracksOpen σ 4 [(0, .ref (xad X 0)), (1, .int x1), (2, .int x2)] []) (σ : Mem) (x1 : Int32) (x2 : Int32) (h : BX9_cracksOpen_4 rl4 σ x1 x2 = some out) : J X SM mX9_cracksOpen σ 4 [(0, .ref (xad X 0)), (1, .int x1), (2, .int x2)] [] := by
  refine r_iload_n 2 dX9_cracksOpen_4 rfl rfl rfl ?_
  refine r_aload_n 0 dX9_cracksOpen_5 rfl rfl rfl ?_
  obtain ⟨r11, σ10, hc, h⟩ := bi_of h
  refine r_callV [] [.int x2] [.int r11, .int x2]  (coX9_cells σ r11 σ10 hc) mv_RX9_182 (by decide) rfl rfl rfl rfl rfl (Nat.le_of_ble_eq_true rfl) rfl dX9_cracksOpen_6 rfl ?_
  refine r_icmp_ge dX9_cracksOpen_9 rfl rfl h (fun c h => ?_) (fun c h => ?_)
  · refine r_iload_n 1 dX9_cracksOpen_49 rfl rfl rfl ?_
    exact r_iret rfl dX9_cracksOpen_50 h hE
  · refine r_iload_n 1 dX9_cracksOpen_12 rfl rfl rfl ?_
    refine r_aload_n 0 dX9_cracksOpen_13 rfl rfl rfl ?_
    refine r_getR fg_RX9_7 rfl rfl dX9_cracksOpen_14 rfl ?_
    refine r_iload_n 2 dX9_cracksOpen_17 rfl rfl rfl ?_
    refine r_iald rfl dX9_cracksOpen_18 rfl h (fun j12 h => ?_)
    refine r_iconst dX9_cracksOpen_19 rfl ki_3 ?_
    refine r_icmp_ne dX9_cracksOpen_20 rfl rfl h (fun c h => ?_) (fun c h => ?_)
    · refine r_iconst dX9_cracksOpen_40 rfl ki_0 ?_
      refine r_iadd dX9_cracksOpen_41 rfl ?_
      refine r_istore_n (fun x_13 => [(1, .int x_13), (0, .ref (xad X 0)), (2, .int x2)]) dX9_cracksOpen_42 rfl rfl (show 1 < 3 by decide) (fun _ => rfl) h (fun x_13 h => ?_)
      refine r_iinc 2 (fun x_14 => [(2, .int x_14), (1, .int x_13), (0, .ref (xad X 0))]) dX9_cracksOpen_43 rfl rfl ki_1 (show 2 < 3 by decide) (fun _ => rfl) h (fun x_14 h => ?_)
      refine r_goto dX9_cracksOpen_46 rfl ?_
      refine r_sub [2, 1, 0] rfl ?_
      exact hr4 σ10 x_13 x_14 h
    · refine r_aload_n 0 dX9_cracksOpen_23 rfl rfl rfl ?_
      refine r_getL fg_RX9_186 rfl rfl dX9_cracksOpen_24 rfl ?_
      refine r_iload_n 2 dX9_cracksOpen_27 rfl rfl rfl ?_
      refine r_lshr dX9_cracksOpen_28 rfl ?_
      refine r_lconst dX9_cracksOpen_29 rfl kl_1 ?_
      refine r_land dX9_cracksOpen_30 rfl ?_
      refine r_lconst dX9_cracksOpen_31 rfl kl_0 ?_
      refine r_lcmp dX9_cracksOpen_32 rfl ?_
      refine r_if_ne dX9_cracksOpen_33 rfl rfl h (fun c h => ?_) (fun c h => ?_)
      · refine r_iconst dX9_cracksOpen_40 rfl ki_0 ?_
        refine r_iadd dX9_cracksOpen_41 rfl ?_
        refine r_istore_n (fun x_15 => [(1, .int x_15), (0, .ref (xad X 0)), (2, .int x2)]) dX9_cracksOpen_42 rfl rfl (show 1 < 3 by decide) (fun _ => rfl) h (fun x_15 h => ?_)
        refine r_iinc 2 (fun x_16 => [(2, .int x_16), (1, .int x_15), (0, .ref (xad X 0))]) dX9_cracksOpen_43 rfl rfl ki_1 (show 2 < 3 by decide) (fun _ => rfl) h (fun x_16 h => ?_)
        refine r_goto dX9_cracksOpen_46 rfl ?_
        refine r_sub [2, 1, 0] rfl ?_
        exact hr4 σ10 x_15 x_16 h
      · refine r_iconst dX9_cracksOpen_36 rfl ki_1 ?_
        refine r_goto dX9_cracksOpen_37 rfl ?_
        refine r_iadd dX9_cracksOpen_41 rfl ?_
        refine r_istore_n (fun x_17 => [(1, .int x_17), (0, .ref (xad X 0)), (2, .int x2)]) dX9_cracksOpen_42 rfl rfl (show 1 < 3 by decide) (fun _ => rfl) h (fun x_17 h => ?_)
        refine r_iinc 2 (fun x_18 => [(2, .int x_18), (1, .int x_17), (0, .ref (xad X 0))]) dX9_cracksOpen_43 rfl rfl ki_1 (show 2 < 3 by decide) (fun _ => rfl) h (fun x_18 h => ?_)
        refine r_goto dX9_cracksOpen_46 rfl ?_
        refine r_sub [2, 1, 0] rfl ?_
        exact hr4 σ10 x_17 x_18 h
noncomputable def FX9_cracksOpen_4 (n : Nat) : Mem → Int32 → Int32 → Option (Int32 × Mem) :=
  Nat.rec (fun _ _ _ => none) (fun _ ih => BX9_cracksOpen_4 ih) n
theorem lX9_cracksOpen_4 {X : CX} {out : Int32 × Mem} (hE : Ends X SM (some (.int out.1)) out.2) : ∀ (n : Nat) (σ : Mem) (x1 : Int32) (x2 : Int32), FX9_cracksOpen_4 n σ x1 x2 = some out → J X SM mX9_cracksOpen σ 4 [(0, .ref (xad X 0)), (1, .int x1), (2, .int x2)] [] := by
  intro n
  induction n with
  | zero => intro σ x1 x2 h; exact nn h
  | succ n ih => intro σ x1 x2 h; exact jX9_cracksOpen_4 hE (FX9_cracksOpen_4 n) ih σ x1 x2 h
noncomputable def FX9_cracksOpen (σ : Mem) : Option (Int32 × Mem) :=
  FX9_cracksOpen_4 FU σ (0 : Int32) (0 : Int32)
set_option maxHeartbeats 4000000 in
set_option maxRecDepth 100000 in
theorem eX9_cracksOpen {X : CX} {out : Int32 × Mem} (hE : Ends X SM (some (.int out.1)) out.2) (σ : Mem) (h : FX9_cracksOpen σ = some out) : J X SM mX9_cracksOpen σ 0 [(0, .ref (xad X 0))] [] := by
  refine r_iconst dX9_cracksOpen_0 rfl ki_0 ?_
  refine r_istoreV_n [(1, .int (0 : Int32)), (0, .ref (xad X 0))] dX9_cracksOpen_1 rfl rfl (show 1 < 3 by decide) rfl ?_
  refine r_iconst dX9_cracksOpen_2 rfl ki_0 ?_
  refine r_istoreV_n [(2, .int (0 : Int32)), (1, .int (0 : Int32)), (0, .ref (xad X 0))] dX9_cracksOpen_3 rfl rfl (show 2 < 3 by decide) rfl ?_
  refine r_sub [2, 1, 0] rfl ?_
  exact lX9_cracksOpen_4 hE FU σ (0 : Int32) (0 : Int32) h
theorem coX9_cracksOpen (σ : Mem) (r : Int32) (σ2 : Mem) (h : FX9_cracksOpen σ = some (r, σ2)) : Con SM 2 yX9_cracksOpen cX9_cracksOpen 3 (some .int) (fun ad => [.ref (ad 0)]) σ (fun _ => some (.int r)) σ2 :=
  con_of (by decide +kernel) (fun _ => Nat.le_of_ble_eq_true rfl) (fun X hE => eX9_cracksOpen (out := (r, σ2)) hE σ h)
-- IceYardModel isOwn
abbrev mX9_isOwn : MD := (cX9_isOwn, RX9, 2, (some .boolean), 1)
noncomputable def FX9_isOwn (σ : Mem) (a1 : Int32) : Option (Int32 × Mem) :=
  dzI (2 : Int32) <|
  if (a1 - a1 / (2 : Int32) * (2 : Int32)) = 0 then
  (rz (1 : Int32) σ)
  else
  (rz (0 : Int32) σ)
set_option maxHeartbeats 4000000 in
set_option maxRecDepth 100000 in
theorem eX9_isOwn {X : CX} {out : Int32 × Mem} (hE : Ends X SM (some (.int out.1)) out.2) (σ : Mem) (a1 : Int32) (h : FX9_isOwn σ a1 = some out) : J X SM mX9_isOwn σ 0 [(0, .ref (xad X 0)), (1, .int a1)] [] := by
  refine r_iload_n 1 dX9_isOwn_0 rfl rfl rfl ?_
  refine r_iconst dX9_isOwn_1 rfl ki_2 ?_
  refine r_irem dX9_isOwn_2 rfl h (fun h => ?_)
  refine r_if_ne dX9_isOwn_3 rfl rfl h (fun c h => ?_) (fun c h => ?_)
  · refine r_iconst dX9_isOwn_10 rfl ki_0 ?_
    exact r_zret rfl dX9_isOwn_11 h hE
  · refine r_iconst dX9_isOwn_6 rfl ki_1 ?_
    refine r_goto dX9_isOwn_7 rfl ?_
    exact r_zret rfl dX9_isOwn_11 h hE
theorem coX9_isOwn (σ : Mem) (a1 : Int32) (r : Int32) (σ2 : Mem) (h : FX9_isOwn σ a1 = some (r, σ2)) : Con SM 1 yX9_isOwn cX9_isOwn 2 (some .boolean) (fun ad => [.ref (ad 0), .int a1]) σ (fun _ => some (.int r)) σ2 :=
  con_of (by decide +kernel) (fun _ => Nat.le_of_ble_eq_true rfl) (fun X hE => eX9_isOwn (out := (r, σ2)) hE σ a1 h)
-- IceYardModel enter
abbrev mX9_enter : MD := (cX9_enter, RX9, 2, none, 2)
noncomputable def FX9_enter_49 (σ : Mem) (x1 : Int32) (s0 : Int32) (s1 : Int32) : Option (Mem) :=
  stZ σ 23 5 s1 s0 fun σ10 =>
  stZ σ10 24 5 x1 (0 : Int32) fun σ11 =>
  some σ11
set_option maxHeartbeats 4000000 in
set_option maxRecDepth 100000 in
theorem jX9_enter_49 {X : CX} {out : Mem} (hE : Ends X SM none out) (σ : Mem) (x1 : Int32) (s0 : Int32) (s1 : Int32) (h : FX9_enter_49 σ x1 s0 s1 = some out) : J X SM mX9_enter σ 49 [(0, .ref (xad X 0)), (1, .int x1)] [.int s0, .int s1, .ref (xad X 23)] := by
  refine r_zast rfl dX9_enter_49 rfl h (fun σ10 h => ?_)
  refine r_aload_n 0 dX9_enter_50 rfl rfl rfl ?_
  refine r_getR fg_RX9_81 rfl rfl dX9_enter_51 rfl ?_
  refine r_iload_n 1 dX9_enter_54 rfl rfl rfl ?_
  refine r_iconst dX9_enter_55 rfl ki_0 ?_
  refine r_zast rfl dX9_enter_56 rfl h (fun σ11 h => ?_)
  exact r_vret rfl dX9_enter_57 h hE
noncomputable def FX9_enter (σ : Mem) (a1 : Int32) : Option (Mem) :=
  nm (setI σ 0 41 a1) fun σ12 =>
  bv (FX9_hold σ12 a1) fun σ13 =>
  stI σ13 20 5 a1 (0 : Int32) fun σ14 =>
  stZ σ14 21 5 a1 (0 : Int32) fun σ15 =>
  stZ σ15 22 5 a1 (0 : Int32) fun σ16 =>
  bi (FX9_isOwn σ16 a1) fun r18 σ17 =>
  if r18 = 0 then
  (FX9_enter_49 σ17 a1 (1 : Int32) a1)
  else
  (FX9_enter_49 σ17 a1 (0 : Int32) a1)
set_option maxHeartbeats 4000000 in
set_option maxRecDepth 100000 in
theorem eX9_enter {X : CX} {out : Mem} (hE : Ends X SM none out) (σ : Mem) (a1 : Int32) (h : FX9_enter σ a1 = some out) : J X SM mX9_enter σ 0 [(0, .ref (xad X 0)), (1, .int a1)] [] := by
  refine r_aload_n 0 dX9_enter_0 rfl rfl rfl ?_
  refine r_iload_n 1 dX9_enter_1 rfl rfl rfl ?_
  refine r_putI fp_RX9_266 rfl rfl dX9_enter_2 rfl h (fun σ12 h => ?_)
  refine r_aload_n 0 dX9_enter_5 rfl rfl rfl ?_
  refine r_iload_n 1 dX9_enter_6 rfl rfl rfl ?_
  obtain ⟨σ13, hc, h⟩ := bv_of h
  refine r_callV [.int a1] [] []  (coX9_hold σ12 a1 σ13 hc) mv_RX9_217 (by decide) rfl rfl rfl rfl rfl (Nat.le_of_ble_eq_true rfl) rfl dX9_enter_7 rfl ?_
  refine r_aload_n 0 dX9_enter_10 rfl rfl rfl ?_
  refine r_getR fg_RX9_69 rfl rfl dX9_enter_11 rfl ?_
  refine r_iload_n 1 dX9_enter_14 rfl rfl rfl ?_
  refine r_iconst dX9_enter_15 rfl ki_0 ?_
  refine r_iast rfl dX9_enter_16 rfl h (fun σ14 h => ?_)
  refine r_aload_n 0 dX9_enter_17 rfl rfl rfl ?_
  refine r_getR fg_RX9_72 rfl rfl dX9_enter_18 rfl ?_
  refine r_iload_n 1 dX9_enter_21 rfl rfl rfl ?_
  refine r_iconst dX9_enter_22 rfl ki_0 ?_
  refine r_zast rfl dX9_enter_23 rfl h (fun σ15 h => ?_)
  refine r_aload_n 0 dX9_enter_24 rfl rfl rfl ?_
  refine r_getR fg_RX9_75 rfl rfl dX9_enter_25 rfl ?_
  refine r_iload_n 1 dX9_enter_28 rfl rfl rfl ?_
  refine r_iconst dX9_enter_29 rfl ki_0 ?_
  refine r_zast rfl dX9_enter_30 rfl h (fun σ16 h => ?_)
  refine r_aload_n 0 dX9_enter_31 rfl rfl rfl ?_
  refine r_getR fg_RX9_78 rfl rfl dX9_enter_32 rfl ?_
  refine r_iload_n 1 dX9_enter_35 rfl rfl rfl ?_
  refine r_aload_n 0 dX9_enter_36 rfl rfl rfl ?_
  refine r_iload_n 1 dX9_enter_37 rfl rfl rfl ?_
  obtain ⟨r18, σ17, hc, h⟩ := bi_of h
  refine r_callV [.int a1] [.int a1, .ref (xad X 23)] [.int r18, .int a1, .ref (xad X 23)]  (coX9_isOwn σ16 a1 r18 σ17 hc) mv_RX9_269 (by decide) rfl rfl rfl rfl rfl (Nat.le_of_ble_eq_true rfl) rfl dX9_enter_38 rfl ?_
  refine r_if_ne dX9_enter_41 rfl rfl h (fun c h => ?_) (fun c h => ?_)
  · refine r_iconst dX9_enter_48 rfl ki_0 ?_
    exact jX9_enter_49 hE σ17 a1 (0 : Int32) a1 h
  · refine r_iconst dX9_enter_44 rfl ki_1 ?_
    refine r_goto dX9_enter_45 rfl ?_
    exact jX9_enter_49 hE σ17 a1 (1 : Int32) a1 h
theorem coX9_enter (σ : Mem) (a1 : Int32) (σ2 : Mem) (h : FX9_enter σ a1 = some σ2) : Con SM 2 yX9_enter cX9_enter 2 none (fun ad => [.ref (ad 0), .int a1]) σ (fun _ => none) σ2 :=
  con_of (by decide +kernel) (fun _ => Nat.le_of_ble_eq_true rfl) (fun X hE => eX9_enter (out := σ2) hE σ a1 h)
-- IceYardModel learn
abbrev mX9_learn : MD := (cX9_learn, RX9, 3, none, 2)
noncomputable def FX9_learn (σ : Mem) (a1 : Int32) (a2 : Int32) : Option (Mem) :=
  bi (FX9_isOwn σ a1) fun r6 σ5 =>
  if a2 = r6 then
  (stZ σ5 23 5 a1 a2 fun σ7 =>
  stZ σ7 24 5 a1 (1 : Int32) fun σ8 =>
  some σ8)
  else
  (some σ5)
set_option maxHeartbeats 4000000 in
set_option maxRecDepth 100000 in
theorem eX9_learn {X : CX} {out : Mem} (hE : Ends X SM none out) (σ : Mem) (a1 : Int32) (a2 : Int32) (h : FX9_learn σ a1 a2 = some out) : J X SM mX9_learn σ 0 [(0, .ref (xad X 0)), (1, .int a1), (2, .int a2)] [] := by
  refine r_iload_n 2 dX9_learn_0 rfl rfl rfl ?_
  refine r_aload_n 0 dX9_learn_1 rfl rfl rfl ?_
  refine r_iload_n 1 dX9_learn_2 rfl rfl rfl ?_
  obtain ⟨r6, σ5, hc, h⟩ := bi_of h
  refine r_callV [.int a1] [.int a2] [.int r6, .int a2]  (coX9_isOwn σ a1 r6 σ5 hc) mv_RX9_269 (by decide) rfl rfl rfl rfl rfl (Nat.le_of_ble_eq_true rfl) rfl dX9_learn_3 rfl ?_
  refine r_icmp_ne dX9_learn_6 rfl rfl h (fun c h => ?_) (fun c h => ?_)
  · exact r_vret rfl dX9_learn_23 h hE
  · refine r_aload_n 0 dX9_learn_9 rfl rfl rfl ?_
    refine r_getR fg_RX9_78 rfl rfl dX9_learn_10 rfl ?_
    refine r_iload_n 1 dX9_learn_13 rfl rfl rfl ?_
    refine r_iload_n 2 dX9_learn_14 rfl rfl rfl ?_
    refine r_zast rfl dX9_learn_15 rfl h (fun σ7 h => ?_)
    refine r_aload_n 0 dX9_learn_16 rfl rfl rfl ?_
    refine r_getR fg_RX9_81 rfl rfl dX9_learn_17 rfl ?_
    refine r_iload_n 1 dX9_learn_20 rfl rfl rfl ?_
    refine r_iconst dX9_learn_21 rfl ki_1 ?_
    refine r_zast rfl dX9_learn_22 rfl h (fun σ8 h => ?_)
    exact r_vret rfl dX9_learn_23 h hE
theorem coX9_learn (σ : Mem) (a1 : Int32) (a2 : Int32) (σ2 : Mem) (h : FX9_learn σ a1 a2 = some σ2) : Con SM 2 yX9_learn cX9_learn 3 none (fun ad => [.ref (ad 0), .int a1, .int a2]) σ (fun _ => none) σ2 :=
  con_of (by decide +kernel) (fun _ => Nat.le_of_ble_eq_true rfl) (fun X hE => eX9_learn (out := σ2) hE σ a1 a2 h)
-- IceYardModel descend
abbrev mX9_descend : MD := (cX9_descend, RX9, 2, none, 3)
noncomputable def FX9_descend (σ : Mem) (a1 : Int32) : Option (Mem) :=
  if (a1 + (1 : Int32)) = (σ.1 0 42) then
  (bv (FX9_learn σ a1 (0 : Int32)) fun σ4 =>
  some σ4)
  else
  (bv (FX9_enter σ (a1 + (1 : Int32))) fun σ3 =>
  some σ3)
set_option maxHeartbeats 4000000 in
set_option maxRecDepth 100000 in
theorem eX9_descend {X : CX} {out : Mem} (hE : Ends X SM none out) (σ : Mem) (a1 : Int32) (h : FX9_descend σ a1 = some out) : J X SM mX9_descend σ 0 [(0, .ref (xad X 0)), (1, .int a1)] [] := by
  refine r_iload_n 1 dX9_descend_0 rfl rfl rfl ?_
  refine r_iconst dX9_descend_1 rfl ki_1 ?_
  refine r_iadd dX9_descend_2 rfl ?_
  refine r_aload_n 0 dX9_descend_3 rfl rfl rfl ?_
  refine r_getI fg_RX9_272 rfl rfl dX9_descend_4 rfl ?_
  refine r_icmp_ne dX9_descend_7 rfl rfl h (fun c h => ?_) (fun c h => ?_)
  · refine r_aload_n 0 dX9_descend_19 rfl rfl rfl ?_
    refine r_iload_n 1 dX9_descend_20 rfl rfl rfl ?_
    refine r_iconst dX9_descend_21 rfl ki_1 ?_
    refine r_iadd dX9_descend_22 rfl ?_
    obtain ⟨σ3, hc, h⟩ := bv_of h
    refine r_callV [.int (a1 + (1 : Int32))] [] []  (coX9_enter σ (a1 + (1 : Int32)) σ3 hc) mv_RX9_279 (by decide) rfl rfl rfl rfl rfl (Nat.le_of_ble_eq_true rfl) rfl dX9_descend_23 rfl ?_
    exact r_vret rfl dX9_descend_26 h hE
  · refine r_aload_n 0 dX9_descend_10 rfl rfl rfl ?_
    refine r_iload_n 1 dX9_descend_11 rfl rfl rfl ?_
    refine r_iconst dX9_descend_12 rfl ki_0 ?_
    obtain ⟨σ4, hc, h⟩ := bv_of h
    refine r_callV [.int a1, .int (0 : Int32)] [] []  (coX9_learn σ a1 (0 : Int32) σ4 hc) mv_RX9_275 (by decide) rfl rfl rfl rfl rfl (Nat.le_of_ble_eq_true rfl) rfl dX9_descend_13 rfl ?_
    refine r_goto dX9_descend_16 rfl ?_
    exact r_vret rfl dX9_descend_26 h hE
theorem coX9_descend (σ : Mem) (a1 : Int32) (σ2 : Mem) (h : FX9_descend σ a1 = some σ2) : Con SM 3 yX9_descend cX9_descend 2 none (fun ad => [.ref (ad 0), .int a1]) σ (fun _ => none) σ2 :=
  con_of (by decide +kernel) (fun _ => Nat.le_of_ble_eq_true rfl) (fun X hE => eX9_descend (out := σ2) hE σ a1 h)
-- IceYardModel fault
abbrev mX9_fault : MD := (cX9_fault, RX9, 1, (some .int), 1)
noncomputable def FX9_fault (σ : Mem) : Option (Int32 × Mem) :=
  some ((σ.1 0 0), σ)
set_option maxHeartbeats 4000000 in
set_option maxRecDepth 100000 in
theorem eX9_fault {X : CX} {out : Int32 × Mem} (hE : Ends X SM (some (.int out.1)) out.2) (σ : Mem) (h : FX9_fault σ = some out) : J X SM mX9_fault σ 0 [(0, .ref (xad X 0))] [] := by
  refine r_aload_n 0 dX9_fault_0 rfl rfl rfl ?_
  refine r_getI fg_RX9_107 rfl rfl dX9_fault_1 rfl ?_
  exact r_iret rfl dX9_fault_4 h hE
theorem coX9_fault (σ : Mem) (r : Int32) (σ2 : Mem) (h : FX9_fault σ = some (r, σ2)) : Con SM 1 yX9_fault cX9_fault 1 (some .int) (fun ad => [.ref (ad 0)]) σ (fun _ => some (.int r)) σ2 :=
  con_of (by decide +kernel) (fun _ => Nat.le_of_ble_eq_true rfl) (fun X hE => eX9_fault (out := (r, σ2)) hE σ h)

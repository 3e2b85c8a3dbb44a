-- IceYardModel tracks
abbrev mX9_tracks : MD := (cX9_tracks, RX9, 3, (some .long), 6)
noncomputable def FX9_tracks (σ : Mem) (a1 : Int32) (a2 : Int32) : Option (Int64 × Mem) :=
  bi (FX9_pushBarred σ a1 a2) fun r7 σ6 =>
  if 0 ≤ r7 then
  (bv (FX9_give σ6 (0 : Int32)) fun σ8 =>
  some ((σ8.2 0 18), σ8))
  else
  (bi (FX9_lost σ6) fun r10 σ9 =>
  some (r10, σ9))
set_option maxHeartbeats 4000000 in
set_option maxRecDepth 100000 in
theorem eX9_tracks {X : CX} {out : Int64 × Mem} (hE : Ends X SM (some (.long out.1)) out.2) (σ : Mem) (a1 : Int32) (a2 : Int32) (h : FX9_tracks σ a1 a2 = some out) : J X SM mX9_tracks σ 0 [(0, .ref (xad X 0)), (1, .int a1), (2, .int a2)] [] := by
  refine r_aload_n 0 dX9_tracks_0 rfl rfl rfl ?_
  refine r_iload_n 1 dX9_tracks_1 rfl rfl rfl ?_
  refine r_iload_n 2 dX9_tracks_2 rfl rfl rfl ?_
  obtain ⟨r7, σ6, hc, h⟩ := bi_of h
  refine r_callV [.int a1, .int a2] [] [.int r7]  (coX9_pushBarred σ a1 a2 r7 σ6 hc) mv_RX9_224 (by decide) rfl rfl rfl rfl rfl (Nat.le_of_ble_eq_true rfl) rfl dX9_tracks_3 rfl ?_
  refine r_if_ge dX9_tracks_6 rfl rfl h (fun c h => ?_) (fun c h => ?_)
  · refine r_aload_n 0 dX9_tracks_13 rfl rfl rfl ?_
    refine r_iconst dX9_tracks_14 rfl ki_0 ?_
    obtain ⟨σ8, hc, h⟩ := bv_of h
    refine r_callV [.int (0 : Int32)] [] []  (coX9_give σ6 (0 : Int32) σ8 hc) mv_RX9_227 (by decide) rfl rfl rfl rfl rfl (Nat.le_of_ble_eq_true rfl) rfl dX9_tracks_15 rfl ?_
    refine r_aload_n 0 dX9_tracks_18 rfl rfl rfl ?_
    refine r_getL fg_RX9_208 rfl rfl dX9_tracks_19 rfl ?_
    exact r_lret rfl dX9_tracks_22 h hE
  · obtain ⟨r10, σ9, hc, h⟩ := bi_of h
    refine r_callS [] [.long r10]  (coX9_lost σ6 r10 σ9 hc) ms_RX9_111 (by decide) rfl rfl (Nat.le_of_ble_eq_true rfl) rfl dX9_tracks_9 rfl ?_
    exact r_lret rfl dX9_tracks_12 h hE
theorem coX9_tracks (σ : Mem) (a1 : Int32) (a2 : Int32) (r : Int64) (σ2 : Mem) (h : FX9_tracks σ a1 a2 = some (r, σ2)) : Con SM 6 yX9_tracks cX9_tracks 3 (some .long) (fun ad => [.ref (ad 0), .int a1, .int a2]) σ (fun _ => some (.long r)) σ2 :=
  con_of (by decide +kernel) (fun _ => Nat.le_of_ble_eq_true rfl) (fun X hE => eX9_tracks (out := (r, σ2)) hE σ a1 a2 h)
-- IceYardModel undo
abbrev mX9_undo : MD := (cX9_undo, RX9, 4, (some .int), 2)
noncomputable def BX9_undo_36 (rl19 : Mem → Int32 → Int32 → Option (Int32 × Mem)) (rl36 : Mem → Int32 → Int32 → Int32 → Option (Int32 × Mem)) (σ : Mem) (x1 : Int32) (x2 : Int32) (x3 : Int32) : Option (Int32 × Mem) :=
  if (6 : Int32) ≤ x3 then
  (rd (σ.1 0 22) 200 fun j10 =>
  nm (setL σ 0 8 (σ.2 11 j10)) fun σ11 =>
  nm (x2 + (1 : Int32)) fun x_12 =>
  rl19 σ11 x1 x_12)
  else
  (rd (((6 : Int32) * (σ.1 0 22)) + x3) 1200 fun j13 =>
  stI σ 4 6 x3 (σ.1 10 j13) fun σ14 =>
  nm (x3 + (1 : Int32)) fun x_15 =>
  rl36 σ14 x1 x2 x_15)
set_option maxHeartbeats 4000000 in
set_option maxRecDepth 100000 in
theorem jX9_undo_36 {X : CX} {out : Int32 × Mem} (hE : Ends X SM (some (.int out.1)) out.2) (rl19 : Mem → Int32 → Int32 → Option (Int32 × Mem)) (hr19 : ∀ (σ : Mem) (x1 : Int32) (x2 : Int32), rl19 σ x1 x2 = some out → J X SM mX9_undo σ 19 [(0, .ref (xad X 0)), (1, .int x1), (2, .int x2)] []) (rl36 : Mem → Int32 → Int32 → Int32 → Option (Int32 × Mem)) (hr36 : ∀ (σ : Mem) (x1 : Int32) (x2 : Int32) (x3 : Int32), rl36 σ x1 x2 x3 = some out → J X SM mX9_undo σ 36 [(0, .ref (xad X 0)), (1, .int x1), (2, .int x2), (3, .int x3)] []) (σ : Mem) (x1 : Int32) (x2 : Int32) (x3 : Int32) (h : BX9_undo_36 rl19 rl36 σ x1 x2 x3 = some out) : J X SM mX9_undo σ 36 [(0, .ref (xad X 0)), (1, .int x1), (2, .int x2), (3, .int x3)] [] := by
  refine r_iload_n 3 dX9_undo_36 rfl rfl rfl ?_
  refine r_bipush dX9_undo_37 rfl kb_6 ?_
  refine r_icmp_ge dX9_undo_39 rfl rfl h (fun c h => ?_) (fun c h => ?_)
  · refine r_aload_n 0 dX9_undo_68 rfl rfl rfl ?_
    refine r_aload_n 0 dX9_undo_69 rfl rfl rfl ?_
    refine r_getR fg_RX9_41 rfl rfl dX9_undo_70 rfl ?_
    refine r_aload_n 0 dX9_undo_73 rfl rfl rfl ?_
    refine r_getI fg_RX9_193 rfl rfl dX9_undo_74 rfl ?_
    refine r_lald rfl dX9_undo_77 rfl h (fun j10 h => ?_)
    refine r_putL fp_RX9_186 rfl rfl dX9_undo_78 rfl h (fun σ11 h => ?_)
    refine r_iinc 2 (fun x_12 => [(2, .int x_12), (0, .ref (xad X 0)), (1, .int x1), (3, .int x3)]) dX9_undo_81 rfl rfl ki_1 (show 2 < 4 by decide) (fun _ => rfl) h (fun x_12 h => ?_)
    refine r_goto dX9_undo_84 rfl ?_
    refine r_sub [1, 2, 0] rfl ?_
    exact hr19 σ11 x1 x_12 h
  · refine r_aload_n 0 dX9_undo_42 rfl rfl rfl ?_
    refine r_getR fg_RX9_19 rfl rfl dX9_undo_43 rfl ?_
    refine r_iload_n 3 dX9_undo_46 rfl rfl rfl ?_
    refine r_aload_n 0 dX9_undo_47 rfl rfl rfl ?_
    refine r_getR fg_RX9_38 rfl rfl dX9_undo_48 rfl ?_
    refine r_bipush dX9_undo_51 rfl kb_6 ?_
    refine r_aload_n 0 dX9_undo_53 rfl rfl rfl ?_
    refine r_getI fg_RX9_193 rfl rfl dX9_undo_54 rfl ?_
    refine r_imul dX9_undo_57 rfl ?_
    refine r_iload_n 3 dX9_undo_58 rfl rfl rfl ?_
    refine r_iadd dX9_undo_59 rfl ?_
    refine r_iald rfl dX9_undo_60 rfl h (fun j13 h => ?_)
    refine r_iast rfl dX9_undo_61 rfl h (fun σ14 h => ?_)
    refine r_iinc 3 (fun x_15 => [(3, .int x_15), (0, .ref (xad X 0)), (1, .int x1), (2, .int x2)]) dX9_undo_62 rfl rfl ki_1 (show 3 < 4 by decide) (fun _ => rfl) h (fun x_15 h => ?_)
    refine r_goto dX9_undo_65 rfl ?_
    refine r_sub [1, 2, 3, 0] rfl ?_
    exact hr36 σ14 x1 x2 x_15 h
noncomputable def FX9_undo_36 (rl19 : Mem → Int32 → Int32 → Option (Int32 × Mem)) (n : Nat) : Mem → Int32 → Int32 → Int32 → Option (Int32 × Mem) :=
  Nat.rec (fun _ _ _ _ => none) (fun _ ih => BX9_undo_36 rl19 ih) n
theorem lX9_undo_36 {X : CX} {out : Int32 × Mem} (hE : Ends X SM (some (.int out.1)) out.2) (rl19 : Mem → Int32 → Int32 → Option (Int32 × Mem)) (hr19 : ∀ (σ : Mem) (x1 : Int32) (x2 : Int32), rl19 σ x1 x2 = some out → J X SM mX9_undo σ 19 [(0, .ref (xad X 0)), (1, .int x1), (2, .int x2)] []) : ∀ (n : Nat) (σ : Mem) (x1 : Int32) (x2 : Int32) (x3 : Int32), FX9_undo_36 rl19 n σ x1 x2 x3 = some out → J X SM mX9_undo σ 36 [(0, .ref (xad X 0)), (1, .int x1), (2, .int x2), (3, .int x3)] [] := by
  intro n
  induction n with
  | zero => intro σ x1 x2 x3 h; exact nn h
  | succ n ih => intro σ x1 x2 x3 h; exact jX9_undo_36 hE rl19 hr19 (FX9_undo_36 rl19 n) ih σ x1 x2 x3 h
noncomputable def BX9_undo_19 (rl19 : Mem → Int32 → Int32 → Option (Int32 × Mem)) (σ : Mem) (x1 : Int32) (x2 : Int32) : Option (Int32 × Mem) :=
  if x1 ≤ x2 then
  (some ((σ.1 0 22), σ))
  else
  (nm (setI σ 0 22 ((σ.1 0 22) - (1 : Int32))) fun σ16 =>
  FX9_undo_36 rl19 FU σ16 x1 x2 (0 : Int32))
set_option maxHeartbeats 4000000 in
set_option maxRecDepth 100000 in
theorem jX9_undo_19 {X : CX} {out : Int32 × Mem} (hE : Ends X SM (some (.int out.1)) out.2) (rl19 : Mem → Int32 → Int32 → Option (Int32 × Mem)) (hr19 : ∀ (σ : Mem) (x1 : Int32) (x2 : Int32), rl19 σ x1 x2 = some out → J X SM mX9_undo σ 19 [(0, .ref (xad X 0)), (1, .int x1), (2, .int x2)] []) (σ : Mem) (x1 : Int32) (x2 : Int32) (h : BX9_undo_19 rl19 σ x1 x2 = some out) : J X SM mX9_undo σ 19 [(0, .ref (xad X 0)), (1, .int x1), (2, .int x2)] [] := by
  refine r_iload_n 2 dX9_undo_19 rfl rfl rfl ?_
  refine r_iload_n 1 dX9_undo_20 rfl rfl rfl ?_
  refine r_icmp_ge dX9_undo_21 rfl rfl h (fun c h => ?_) (fun c h => ?_)
  · refine r_aload_n 0 dX9_undo_87 rfl rfl rfl ?_
    refine r_getI fg_RX9_193 rfl rfl dX9_undo_88 rfl ?_
    exact r_iret rfl dX9_undo_91 h hE
  · refine r_aload_n 0 dX9_undo_24 rfl rfl rfl ?_
    refine r_dup dX9_undo_25 rfl rfl ?_
    refine r_getI fg_RX9_193 rfl rfl dX9_undo_26 rfl ?_
    refine r_iconst dX9_undo_29 rfl ki_1 ?_
    refine r_isub dX9_undo_30 rfl ?_
    refine r_putI fp_RX9_193 rfl rfl dX9_undo_31 rfl h (fun σ16 h => ?_)
    refine r_iconst dX9_undo_34 rfl ki_0 ?_
    refine r_istoreV_n [(3, .int (0 : Int32)), (0, .ref (xad X 0)), (1, .int x1), (2, .int x2)] dX9_undo_35 rfl rfl (show 3 < 4 by decide) rfl ?_
    refine r_sub [1, 2, 3, 0] rfl ?_
    exact lX9_undo_36 hE rl19 hr19 FU σ16 x1 x2 (0 : Int32) h
noncomputable def FX9_undo_19 (n : Nat) : Mem → Int32 → Int32 → Option (Int32 × Mem) :=
  Nat.rec (fun _ _ _ => none) (fun _ ih => BX9_undo_19 ih) n
theorem lX9_undo_19 {X : CX} {out : Int32 × Mem} (hE : Ends X SM (some (.int out.1)) out.2) : ∀ (n : Nat) (σ : Mem) (x1 : Int32) (x2 : Int32), FX9_undo_19 n σ x1 x2 = some out → J X SM mX9_undo σ 19 [(0, .ref (xad X 0)), (1, .int x1), (2, .int x2)] [] := by
  intro n
  induction n with
  | zero => intro σ x1 x2 h; exact nn h
  | succ n ih => intro σ x1 x2 h; exact jX9_undo_19 hE (FX9_undo_19 n) ih σ x1 x2 h
noncomputable def FX9_undo (σ : Mem) (a1 : Int32) : Option (Int32 × Mem) :=
  bi (FX9_in σ ((a1).toInt64) (0 : Int64) (((σ.1 0 22)).toInt64)) fun r18 σ17 =>
  if r18 = 0 then
  (some ((-2 : Int32), σ17))
  else
  (FX9_undo_19 FU σ17 a1 (0 : Int32))
set_option maxHeartbeats 4000000 in
set_option maxRecDepth 100000 in
theorem eX9_undo {X : CX} {out : Int32 × Mem} (hE : Ends X SM (some (.int out.1)) out.2) (σ : Mem) (a1 : Int32) (h : FX9_undo σ a1 = some out) : J X SM mX9_undo σ 0 [(0, .ref (xad X 0)), (1, .int a1)] [] := by
  refine r_iload_n 1 dX9_undo_0 rfl rfl rfl ?_
  refine r_i2l dX9_undo_1 rfl ?_
  refine r_lconst dX9_undo_2 rfl kl_0 ?_
  refine r_aload_n 0 dX9_undo_3 rfl rfl rfl ?_
  refine r_getI fg_RX9_193 rfl rfl dX9_undo_4 rfl ?_
  refine r_i2l dX9_undo_7 rfl ?_
  obtain ⟨r18, σ17, hc, h⟩ := bi_of h
  refine r_callS [] [.int r18]  (coX9_in σ ((a1).toInt64) (0 : Int64) (((σ.1 0 22)).toInt64) r18 σ17 hc) ms_RX9_142 (by decide) rfl rfl (Nat.le_of_ble_eq_true rfl) rfl dX9_undo_8 rfl ?_
  refine r_if_ne dX9_undo_11 rfl rfl h (fun c h => ?_) (fun c h => ?_)
  · refine r_iconst dX9_undo_17 rfl ki_0 ?_
    refine r_istoreV_n [(2, .int (0 : Int32)), (0, .ref (xad X 0)), (1, .int a1)] dX9_undo_18 rfl rfl (show 2 < 4 by decide) rfl ?_
    refine r_sub [1, 2, 0] rfl ?_
    exact lX9_undo_19 hE FU σ17 a1 (0 : Int32) h
  · refine r_bipush dX9_undo_14 rfl kb_m2 ?_
    exact r_iret rfl dX9_undo_16 h hE
theorem coX9_undo (σ : Mem) (a1 : Int32) (r : Int32) (σ2 : Mem) (h : FX9_undo σ a1 = some (r, σ2)) : Con SM 2 yX9_undo cX9_undo 4 (some .int) (fun ad => [.ref (ad 0), .int a1]) σ (fun _ => some (.int r)) σ2 :=
  con_of (by decide +kernel) (fun _ => Nat.le_of_ble_eq_true rfl) (fun X hE => eX9_undo (out := (r, σ2)) hE σ a1 h)
-- IceYardModel won
abbrev mX9_won : MD := (cX9_won, RX9, 2, (some .int), 8)
noncomputable def FX9_won (σ : Mem) (a1 : Int32) : Option (Int32 × Mem) :=
  bi (FX9_in σ ((a1).toInt64) (0 : Int64) (1 : Int64)) fun r6 σ5 =>
  if r6 = 0 then
  (some ((-1 : Int32), σ5))
  else
  (bi (FX9_wonIn σ5 a1) fun r8 σ7 =>
  some (r8, σ7))
set_option maxHeartbeats 4000000 in
set_option maxRecDepth 100000 in
theorem eX9_won {X : CX} {out : Int32 × Mem} (hE : Ends X SM (some (.int out.1)) out.2) (σ : Mem) (a1 : Int32) (h : FX9_won σ a1 = some out) : J X SM mX9_won σ 0 [(0, .ref (xad X 0)), (1, .int a1)] [] := by
  refine r_iload_n 1 dX9_won_0 rfl rfl rfl ?_
  refine r_i2l dX9_won_1 rfl ?_
  refine r_lconst dX9_won_2 rfl kl_0 ?_
  refine r_lconst dX9_won_3 rfl kl_1 ?_
  obtain ⟨r6, σ5, hc, h⟩ := bi_of h
  refine r_callS [] [.int r6]  (coX9_in σ ((a1).toInt64) (0 : Int64) (1 : Int64) r6 σ5 hc) ms_RX9_142 (by decide) rfl rfl (Nat.le_of_ble_eq_true rfl) rfl dX9_won_4 rfl ?_
  refine r_if_eq dX9_won_7 rfl rfl h (fun c h => ?_) (fun c h => ?_)
  · refine r_iconst dX9_won_18 rfl ki_m1 ?_
    exact r_iret rfl dX9_won_19 h hE
  · refine r_aload_n 0 dX9_won_10 rfl rfl rfl ?_
    refine r_iload_n 1 dX9_won_11 rfl rfl rfl ?_
    obtain ⟨r8, σ7, hc, h⟩ := bi_of h
    refine r_callV [.int a1] [] [.int r8]  (coX9_wonIn σ5 a1 r8 σ7 hc) mv_RX9_294 (by decide) rfl rfl rfl rfl rfl (Nat.le_of_ble_eq_true rfl) rfl dX9_won_12 rfl ?_
    refine r_goto dX9_won_15 rfl ?_
    exact r_iret rfl dX9_won_19 h hE
theorem coX9_won (σ : Mem) (a1 : Int32) (r : Int32) (σ2 : Mem) (h : FX9_won σ a1 = some (r, σ2)) : Con SM 8 yX9_won cX9_won 2 (some .int) (fun ad => [.ref (ad 0), .int a1]) σ (fun _ => some (.int r)) σ2 :=
  con_of (by decide +kernel) (fun _ => Nat.le_of_ble_eq_true rfl) (fun X hE => eX9_won (out := (r, σ2)) hE σ a1 h)
-- IceYardModel would
abbrev mX9_would : MD := (cX9_would, RX9, 5, (some .int), 6)
noncomputable def FX9_would (σ : Mem) (a1 : Int32) (a2 : Int32) : Option (Int32 × Mem) :=
  bi (FX9_pushBarred σ a1 a2) fun r7 σ6 =>
  if 0 ≤ r7 then
  (rd a1 6 fun j8 =>
  nm (σ6.1 4 j8) fun x_9 =>
  bv (FX9_give σ6 (0 : Int32)) fun σ10 =>
  some (x_9, σ10))
  else
  (some (r7, σ6))
set_option maxHeartbeats 4000000 in
set_option maxRecDepth 100000 in
theorem eX9_would {X : CX} {out : Int32 × Mem} (hE : Ends X SM (some (.int out.1)) out.2) (σ : Mem) (a1 : Int32) (a2 : Int32) (h : FX9_would σ a1 a2 = some out) : J X SM mX9_would σ 0 [(0, .ref (xad X 0)), (1, .int a1), (2, .int a2)] [] := by
  refine r_aload_n 0 dX9_would_0 rfl rfl rfl ?_
  refine r_iload_n 1 dX9_would_1 rfl rfl rfl ?_
  refine r_iload_n 2 dX9_would_2 rfl rfl rfl ?_
  obtain ⟨r7, σ6, hc, h⟩ := bi_of h
  refine r_callV [.int a1, .int a2] [] [.int r7]  (coX9_pushBarred σ a1 a2 r7 σ6 hc) mv_RX9_224 (by decide) rfl rfl rfl rfl rfl (Nat.le_of_ble_eq_true rfl) rfl dX9_would_3 rfl ?_
  refine r_istoreV_n [(3, .int r7), (0, .ref (xad X 0)), (1, .int a1), (2, .int a2)] dX9_would_6 rfl rfl (show 3 < 5 by decide) rfl ?_
  refine r_iload_n 0 dX9_would_7 rfl rfl rfl ?_
  refine r_if_ge dX9_would_8 rfl rfl h (fun c h => ?_) (fun c h => ?_)
  · refine r_aload_n 1 dX9_would_13 rfl rfl rfl ?_
    refine r_getR fg_RX9_19 rfl rfl dX9_would_14 rfl ?_
    refine r_iload_n 2 dX9_would_17 rfl rfl rfl ?_
    refine r_iald rfl dX9_would_18 rfl h (fun j8 h => ?_)
    refine r_istore (fun x_9 => [(4, .int x_9), (3, .int r7), (0, .ref (xad X 0)), (1, .int a1), (2, .int a2)]) dX9_would_19 rfl (show 4 < 5 by decide) (fun _ => rfl) h (fun x_9 h => ?_)
    refine r_aload_n 2 dX9_would_21 rfl rfl rfl ?_
    refine r_iconst dX9_would_22 rfl ki_0 ?_
    obtain ⟨σ10, hc, h⟩ := bv_of h
    refine r_callV [.int (0 : Int32)] [] []  (coX9_give σ6 (0 : Int32) σ10 hc) mv_RX9_227 (by decide) rfl rfl rfl rfl rfl (Nat.le_of_ble_eq_true rfl) rfl dX9_would_23 rfl ?_
    refine r_iload 0 dX9_would_26 rfl rfl ?_
    exact r_iret rfl dX9_would_28 h hE
  · refine r_iload_n 0 dX9_would_11 rfl rfl rfl ?_
    exact r_iret rfl dX9_would_12 h hE
theorem coX9_would (σ : Mem) (a1 : Int32) (a2 : Int32) (r : Int32) (σ2 : Mem) (h : FX9_would σ a1 a2 = some (r, σ2)) : Con SM 6 yX9_would cX9_would 5 (some .int) (fun ad => [.ref (ad 0), .int a1, .int a2]) σ (fun _ => some (.int r)) σ2 :=
  con_of (by decide +kernel) (fun _ => Nat.le_of_ble_eq_true rfl) (fun X hE => eX9_would (out := (r, σ2)) hE σ a1 a2 h)
-- IceYardModel yard
abbrev mX9_yard : MD := (cX9_yard, RX9, 6, (some .int), 4)
noncomputable def BX9_yard_278 (rl278 : Mem → Int32 → Option (Int32 × Mem)) (σ : Mem) (x5 : Int32) : Option (Int32 × Mem) :=
  if (3 : Int32) ≤ x5 then
  (bi (FX9_refused σ (σ.1 0 3)) fun r52 σ51 =>
  some (r52, σ51))
  else
  (stZ σ 12 3 x5 (0 : Int32) fun σ53 =>
  nm (x5 + (1 : Int32)) fun x_54 =>
  rl278 σ53 x_54)
set_option maxHeartbeats 4000000 in
set_option maxRecDepth 100000 in
theorem jX9_yard_278 {X : CX} {out : Int32 × Mem} (hE : Ends X SM (some (.int out.1)) out.2) (rl278 : Mem → Int32 → Option (Int32 × Mem)) (hr278 : ∀ (σ : Mem) (x5 : Int32), rl278 σ x5 = some out → J X SM mX9_yard σ 278 [(0, .ref (xad X 0)), (5, .int x5)] []) (σ : Mem) (x5 : Int32) (h : BX9_yard_278 rl278 σ x5 = some out) : J X SM mX9_yard σ 278 [(0, .ref (xad X 0)), (5, .int x5)] [] := by
  refine r_iload 1 dX9_yard_278 rfl rfl ?_
  refine r_iconst dX9_yard_280 rfl ki_3 ?_
  refine r_icmp_ge dX9_yard_281 rfl rfl h (fun c h => ?_) (fun c h => ?_)
  · refine r_aload_n 0 dX9_yard_298 rfl rfl rfl ?_
    refine r_aload_n 0 dX9_yard_299 rfl rfl rfl ?_
    refine r_getI fg_RX9_179 rfl rfl dX9_yard_300 rfl ?_
    obtain ⟨r52, σ51, hc, h⟩ := bi_of h
    refine r_callV [.int (σ.1 0 3)] [] [.int r52]  (coX9_refused σ (σ.1 0 3) r52 σ51 hc) mv_RX9_163 (by decide) rfl rfl rfl rfl rfl (Nat.le_of_ble_eq_true rfl) rfl dX9_yard_303 rfl ?_
    exact r_iret rfl dX9_yard_306 h hE
  · refine r_aload_n 0 dX9_yard_284 rfl rfl rfl ?_
    refine r_getR fg_RX9_44 rfl rfl dX9_yard_285 rfl ?_
    refine r_iload 1 dX9_yard_288 rfl rfl ?_
    refine r_iconst dX9_yard_290 rfl ki_0 ?_
    refine r_zast rfl dX9_yard_291 rfl h (fun σ53 h => ?_)
    refine r_iinc 1 (fun x_54 => [(5, .int x_54), (0, .ref (xad X 0))]) dX9_yard_292 rfl rfl ki_1 (show 5 < 6 by decide) (fun _ => rfl) h (fun x_54 h => ?_)
    refine r_goto dX9_yard_295 rfl ?_
    refine r_sub [1, 0] rfl ?_
    exact hr278 σ53 x_54 h
noncomputable def FX9_yard_278 (n : Nat) : Mem → Int32 → Option (Int32 × Mem) :=
  Nat.rec (fun _ _ => none) (fun _ ih => BX9_yard_278 ih) n
theorem lX9_yard_278 {X : CX} {out : Int32 × Mem} (hE : Ends X SM (some (.int out.1)) out.2) : ∀ (n : Nat) (σ : Mem) (x5 : Int32), FX9_yard_278 n σ x5 = some out → J X SM mX9_yard σ 278 [(0, .ref (xad X 0)), (5, .int x5)] [] := by
  intro n
  induction n with
  | zero => intro σ x5 h; exact nn h
  | succ n ih => intro σ x5 h; exact jX9_yard_278 hE (FX9_yard_278 n) ih σ x5 h
noncomputable def BX9_yard_191 (rl191 : Mem → Int32 → Option (Int32 × Mem)) (σ : Mem) (x5 : Int32) : Option (Int32 × Mem) :=
  if (6 : Int32) ≤ x5 then
  (nm (setL σ 0 8 (0 : Int64)) fun σ55 =>
  nm (setL σ55 0 17 (0 : Int64)) fun σ56 =>
  nm (setI σ56 0 22 (0 : Int32)) fun σ57 =>
  FX9_yard_278 FU σ57 (0 : Int32))
  else
  (rd x5 6 fun j58 =>
  stI σ 2 6 x5 (σ.1 6 j58) fun σ59 =>
  rd x5 6 fun j60 =>
  stI σ59 3 6 x5 (σ59.1 7 j60) fun σ61 =>
  if (σ61.1 0 3) ≤ x5 then
  (stI σ61 4 6 x5 (-6 : Int32) fun σ62 =>
  nm (x5 + (1 : Int32)) fun x_63 =>
  rl191 σ62 x_63)
  else
  (rd x5 6 fun j64 =>
  stI σ61 4 6 x5 (σ61.1 7 j64) fun σ65 =>
  nm (x5 + (1 : Int32)) fun x_66 =>
  rl191 σ65 x_66))
set_option maxHeartbeats 4000000 in
set_option maxRecDepth 100000 in
theorem jX9_yard_191 {X : CX} {out : Int32 × Mem} (hE : Ends X SM (some (.int out.1)) out.2) (rl191 : Mem → Int32 → Option (Int32 × Mem)) (hr191 : ∀ (σ : Mem) (x5 : Int32), rl191 σ x5 = some out → J X SM mX9_yard σ 191 [(0, .ref (xad X 0)), (5, .int x5)] []) (σ : Mem) (x5 : Int32) (h : BX9_yard_191 rl191 σ x5 = some out) : J X SM mX9_yard σ 191 [(0, .ref (xad X 0)), (5, .int x5)] [] := by
  refine r_iload 1 dX9_yard_191 rfl rfl ?_
  refine r_bipush dX9_yard_193 rfl kb_6 ?_
  refine r_icmp_ge dX9_yard_195 rfl rfl h (fun c h => ?_) (fun c h => ?_)
  · refine r_aload_n 0 dX9_yard_260 rfl rfl rfl ?_
    refine r_lconst dX9_yard_261 rfl kl_0 ?_
    refine r_putL fp_RX9_186 rfl rfl dX9_yard_262 rfl h (fun σ55 h => ?_)
    refine r_aload_n 0 dX9_yard_265 rfl rfl rfl ?_
    refine r_lconst dX9_yard_266 rfl kl_0 ?_
    refine r_putL fp_RX9_190 rfl rfl dX9_yard_267 rfl h (fun σ56 h => ?_)
    refine r_aload_n 0 dX9_yard_270 rfl rfl rfl ?_
    refine r_iconst dX9_yard_271 rfl ki_0 ?_
    refine r_putI fp_RX9_193 rfl rfl dX9_yard_272 rfl h (fun σ57 h => ?_)
    refine r_iconst dX9_yard_275 rfl ki_0 ?_
    refine r_istoreV [(5, .int (0 : Int32)), (0, .ref (xad X 0))] dX9_yard_276 rfl (show 5 < 6 by decide) rfl ?_
    refine r_sub [1, 0] rfl ?_
    exact lX9_yard_278 hE FU σ57 (0 : Int32) h
  · refine r_aload_n 0 dX9_yard_198 rfl rfl rfl ?_
    refine r_getR fg_RX9_13 rfl rfl dX9_yard_199 rfl ?_
    refine r_iload 1 dX9_yard_202 rfl rfl ?_
    refine r_aload_n 0 dX9_yard_204 rfl rfl rfl ?_
    refine r_getR fg_RX9_25 rfl rfl dX9_yard_205 rfl ?_
    refine r_iload 1 dX9_yard_208 rfl rfl ?_
    refine r_iald rfl dX9_yard_210 rfl h (fun j58 h => ?_)
    refine r_iast rfl dX9_yard_211 rfl h (fun σ59 h => ?_)
    refine r_aload_n 0 dX9_yard_212 rfl rfl rfl ?_
    refine r_getR fg_RX9_16 rfl rfl dX9_yard_213 rfl ?_
    refine r_iload 1 dX9_yard_216 rfl rfl ?_
    refine r_aload_n 0 dX9_yard_218 rfl rfl rfl ?_
    refine r_getR fg_RX9_28 rfl rfl dX9_yard_219 rfl ?_
    refine r_iload 1 dX9_yard_222 rfl rfl ?_
    refine r_iald rfl dX9_yard_224 rfl h (fun j60 h => ?_)
    refine r_iast rfl dX9_yard_225 rfl h (fun σ61 h => ?_)
    refine r_aload_n 0 dX9_yard_226 rfl rfl rfl ?_
    refine r_getR fg_RX9_19 rfl rfl dX9_yard_227 rfl ?_
    refine r_iload 1 dX9_yard_230 rfl rfl ?_
    refine r_iload 1 dX9_yard_232 rfl rfl ?_
    refine r_aload_n 0 dX9_yard_234 rfl rfl rfl ?_
    refine r_getI fg_RX9_179 rfl rfl dX9_yard_235 rfl ?_
    refine r_icmp_ge dX9_yard_238 rfl rfl h (fun c h => ?_) (fun c h => ?_)
    · refine r_bipush dX9_yard_251 rfl kb_m6 ?_
      refine r_iast rfl dX9_yard_253 rfl h (fun σ62 h => ?_)
      refine r_iinc 1 (fun x_63 => [(5, .int x_63), (0, .ref (xad X 0))]) dX9_yard_254 rfl rfl ki_1 (show 5 < 6 by decide) (fun _ => rfl) h (fun x_63 h => ?_)
      refine r_goto dX9_yard_257 rfl ?_
      refine r_sub [1, 0] rfl ?_
      exact hr191 σ62 x_63 h
    · refine r_aload_n 0 dX9_yard_241 rfl rfl rfl ?_
      refine r_getR fg_RX9_28 rfl rfl dX9_yard_242 rfl ?_
      refine r_iload 1 dX9_yard_245 rfl rfl ?_
      refine r_iald rfl dX9_yard_247 rfl h (fun j64 h => ?_)
      refine r_goto dX9_yard_248 rfl ?_
      refine r_iast rfl dX9_yard_253 rfl h (fun σ65 h => ?_)
      refine r_iinc 1 (fun x_66 => [(5, .int x_66), (0, .ref (xad X 0))]) dX9_yard_254 rfl rfl ki_1 (show 5 < 6 by decide) (fun _ => rfl) h (fun x_66 h => ?_)
      refine r_goto dX9_yard_257 rfl ?_
      refine r_sub [1, 0] rfl ?_
      exact hr191 σ65 x_66 h
noncomputable def FX9_yard_191 (n : Nat) : Mem → Int32 → Option (Int32 × Mem) :=
  Nat.rec (fun _ _ => none) (fun _ ih => BX9_yard_191 ih) n
theorem lX9_yard_191 {X : CX} {out : Int32 × Mem} (hE : Ends X SM (some (.int out.1)) out.2) : ∀ (n : Nat) (σ : Mem) (x5 : Int32), FX9_yard_191 n σ x5 = some out → J X SM mX9_yard σ 191 [(0, .ref (xad X 0)), (5, .int x5)] [] := by
  intro n
  induction n with
  | zero => intro σ x5 h; exact nn h
  | succ n ih => intro σ x5 h; exact jX9_yard_191 hE (FX9_yard_191 n) ih σ x5 h
noncomputable def BX9_yard_159 (rl159 : Mem → Int32 → Option (Int32 × Mem)) (σ : Mem) (x5 : Int32) : Option (Int32 × Mem) :=
  bi (FX9_cells σ) fun r68 σ67 =>
  if r68 ≤ x5 then
  (FX9_yard_191 FU σ67 (0 : Int32))
  else
  (rd x5 36 fun j69 =>
  stI σ67 1 36 x5 (σ67.1 5 j69) fun σ70 =>
  nm (x5 + (1 : Int32)) fun x_71 =>
  rl159 σ70 x_71)
set_option maxHeartbeats 4000000 in
set_option maxRecDepth 100000 in
theorem jX9_yard_159 {X : CX} {out : Int32 × Mem} (hE : Ends X SM (some (.int out.1)) out.2) (rl159 : Mem → Int32 → Option (Int32 × Mem)) (hr159 : ∀ (σ : Mem) (x5 : Int32), rl159 σ x5 = some out → J X SM mX9_yard σ 159 [(0, .ref (xad X 0)), (5, .int x5)] []) (σ : Mem) (x5 : Int32) (h : BX9_yard_159 rl159 σ x5 = some out) : J X SM mX9_yard σ 159 [(0, .ref (xad X 0)), (5, .int x5)] [] := by
  refine r_iload 1 dX9_yard_159 rfl rfl ?_
  refine r_aload_n 0 dX9_yard_161 rfl rfl rfl ?_
  obtain ⟨r68, σ67, hc, h⟩ := bi_of h
  refine r_callV [] [.int x5] [.int r68, .int x5]  (coX9_cells σ r68 σ67 hc) mv_RX9_182 (by decide) rfl rfl rfl rfl rfl (Nat.le_of_ble_eq_true rfl) rfl dX9_yard_162 rfl ?_
  refine r_icmp_ge dX9_yard_165 rfl rfl h (fun c h => ?_) (fun c h => ?_)
  · refine r_iconst dX9_yard_188 rfl ki_0 ?_
    refine r_istoreV [(5, .int (0 : Int32)), (0, .ref (xad X 0))] dX9_yard_189 rfl (show 5 < 6 by decide) rfl ?_
    refine r_sub [1, 0] rfl ?_
    exact lX9_yard_191 hE FU σ67 (0 : Int32) h
  · refine r_aload_n 0 dX9_yard_168 rfl rfl rfl ?_
    refine r_getR fg_RX9_7 rfl rfl dX9_yard_169 rfl ?_
    refine r_iload 1 dX9_yard_172 rfl rfl ?_
    refine r_aload_n 0 dX9_yard_174 rfl rfl rfl ?_
    refine r_getR fg_RX9_22 rfl rfl dX9_yard_175 rfl ?_
    refine r_iload 1 dX9_yard_178 rfl rfl ?_
    refine r_iald rfl dX9_yard_180 rfl h (fun j69 h => ?_)
    refine r_iast rfl dX9_yard_181 rfl h (fun σ70 h => ?_)
    refine r_iinc 1 (fun x_71 => [(5, .int x_71), (0, .ref (xad X 0))]) dX9_yard_182 rfl rfl ki_1 (show 5 < 6 by decide) (fun _ => rfl) h (fun x_71 h => ?_)
    refine r_goto dX9_yard_185 rfl ?_
    refine r_sub [1, 0] rfl ?_
    exact hr159 σ70 x_71 h
noncomputable def FX9_yard_159 (n : Nat) : Mem → Int32 → Option (Int32 × Mem) :=
  Nat.rec (fun _ _ => none) (fun _ ih => BX9_yard_159 ih) n
theorem lX9_yard_159 {X : CX} {out : Int32 × Mem} (hE : Ends X SM (some (.int out.1)) out.2) : ∀ (n : Nat) (σ : Mem) (x5 : Int32), FX9_yard_159 n σ x5 = some out → J X SM mX9_yard σ 159 [(0, .ref (xad X 0)), (5, .int x5)] [] := by
  intro n
  induction n with
  | zero => intro σ x5 h; exact nn h
  | succ n ih => intro σ x5 h; exact jX9_yard_159 hE (FX9_yard_159 n) ih σ x5 h
noncomputable def FX9_yard_57 (σ : Mem) (x1 : Int32) (x3 : Int32) (x4 : Int32) : Option (Int32 × Mem) :=
  rd x1 4 fun j72 =>
  if 0 ≤ (σ.1 28 j72) then
  (if 0 ≤ x4 then
  (rd x1 4 fun j73 =>
  bi (FX9_isBeyond σ x3 ((x4).toInt64) (σ.1 28 j73)) fun r75 σ74 =>
  if r75 = 0 then
  (bi (FX9_readsYard σ74 (((60 : Int32) * x1) + x3) x4) fun r77 σ76 =>
  if r77 = 0 then
  (bi (FX9_refused σ76 ((-100 : Int32) - (σ76.1 0 9))) fun r82 σ81 =>
  some (r82, σ81))
  else
  (nm (setI σ76 0 1 (σ76.1 0 15)) fun σ78 =>
  nm (setI σ78 0 2 (σ78.1 0 16)) fun σ79 =>
  nm (setI σ79 0 3 (σ79.1 0 10)) fun σ80 =>
  FX9_yard_159 FU σ80 (0 : Int32)))
  else
  (bi (FX9_failed σ74 (3 : Int32)) fun r84 σ83 =>
  some (r84, σ83)))
  else
  (bi (FX9_failed σ (4 : Int32)) fun r86 σ85 =>
  some (r86, σ85)))
  else
  (bi (FX9_failed σ (1 : Int32)) fun r88 σ87 =>
  some (r88, σ87))
set_option maxHeartbeats 4000000 in
set_option maxRecDepth 100000 in
theorem jX9_yard_57 {X : CX} {out : Int32 × Mem} (hE : Ends X SM (some (.int out.1)) out.2) (σ : Mem) (x1 : Int32) (x3 : Int32) (x4 : Int32) (h : FX9_yard_57 σ x1 x3 x4 = some out) : J X SM mX9_yard σ 57 [(0, .ref (xad X 0)), (1, .int x1), (3, .int x3), (4, .int x4)] [] := by
  refine r_aload_n 0 dX9_yard_57 rfl rfl rfl ?_
  refine r_getR fg_RX9_93 rfl rfl dX9_yard_58 rfl ?_
  refine r_iload_n 1 dX9_yard_61 rfl rfl rfl ?_
  refine r_iald rfl dX9_yard_62 rfl h (fun j72 h => ?_)
  refine r_if_ge dX9_yard_63 rfl rfl h (fun c h => ?_) (fun c h => ?_)
  · refine r_iload 3 dX9_yard_72 rfl rfl ?_
    refine r_if_ge dX9_yard_74 rfl rfl h (fun c h => ?_) (fun c h => ?_)
    · refine r_iload_n 2 dX9_yard_83 rfl rfl rfl ?_
      refine r_iload 3 dX9_yard_84 rfl rfl ?_
      refine r_i2l dX9_yard_86 rfl ?_
      refine r_aload_n 0 dX9_yard_87 rfl rfl rfl ?_
      refine r_getR fg_RX9_93 rfl rfl dX9_yard_88 rfl ?_
      refine r_iload_n 1 dX9_yard_91 rfl rfl rfl ?_
      refine r_iald rfl dX9_yard_92 rfl h (fun j73 h => ?_)
      obtain ⟨r75, σ74, hc, h⟩ := bi_of h
      refine r_callS [] [.int r75]  (coX9_isBeyond σ x3 ((x4).toInt64) (σ.1 28 j73) r75 σ74 hc) ms_RX9_171 (by decide) rfl rfl (Nat.le_of_ble_eq_true rfl) rfl dX9_yard_93 rfl ?_
      refine r_if_eq dX9_yard_96 rfl rfl h (fun c h => ?_) (fun c h => ?_)
      · refine r_aload_n 0 dX9_yard_105 rfl rfl rfl ?_
        refine r_bipush dX9_yard_106 rfl kb_60 ?_
        refine r_iload_n 1 dX9_yard_108 rfl rfl rfl ?_
        refine r_imul dX9_yard_109 rfl ?_
        refine r_iload_n 2 dX9_yard_110 rfl rfl rfl ?_
        refine r_iadd dX9_yard_111 rfl ?_
        refine r_iload 3 dX9_yard_112 rfl rfl ?_
        obtain ⟨r77, σ76, hc, h⟩ := bi_of h
        refine r_callV [.int (((60 : Int32) * x1) + x3), .int x4] [] [.int r77]  (coX9_readsYard σ74 (((60 : Int32) * x1) + x3) x4 r77 σ76 hc) mv_RX9_175 (by decide) rfl rfl rfl rfl rfl (Nat.le_of_ble_eq_true rfl) rfl dX9_yard_114 rfl ?_
        refine r_if_ne dX9_yard_117 rfl rfl h (fun c h => ?_) (fun c h => ?_)
        · refine r_aload_n 0 dX9_yard_132 rfl rfl rfl ?_
          refine r_aload_n 0 dX9_yard_133 rfl rfl rfl ?_
          refine r_getI fg_RX9_149 rfl rfl dX9_yard_134 rfl ?_
          refine r_putI fp_RX9_115 rfl rfl dX9_yard_137 rfl h (fun σ78 h => ?_)
          refine r_aload_n 0 dX9_yard_140 rfl rfl rfl ?_
          refine r_aload_n 0 dX9_yard_141 rfl rfl rfl ?_
          refine r_getI fg_RX9_152 rfl rfl dX9_yard_142 rfl ?_
          refine r_putI fp_RX9_118 rfl rfl dX9_yard_145 rfl h (fun σ79 h => ?_)
          refine r_aload_n 0 dX9_yard_148 rfl rfl rfl ?_
          refine r_aload_n 0 dX9_yard_149 rfl rfl rfl ?_
          refine r_getI fg_RX9_135 rfl rfl dX9_yard_150 rfl ?_
          refine r_putI fp_RX9_179 rfl rfl dX9_yard_153 rfl h (fun σ80 h => ?_)
          refine r_iconst dX9_yard_156 rfl ki_0 ?_
          refine r_istoreV [(5, .int (0 : Int32)), (0, .ref (xad X 0)), (1, .int x1), (3, .int x3), (4, .int x4)] dX9_yard_157 rfl (show 5 < 6 by decide) rfl ?_
          refine r_sub [1, 0] rfl ?_
          exact lX9_yard_159 hE FU σ80 (0 : Int32) h
        · refine r_aload_n 0 dX9_yard_120 rfl rfl rfl ?_
          refine r_bipush dX9_yard_121 rfl kb_m100 ?_
          refine r_aload_n 0 dX9_yard_123 rfl rfl rfl ?_
          refine r_getI fg_RX9_121 rfl rfl dX9_yard_124 rfl ?_
          refine r_isub dX9_yard_127 rfl ?_
          obtain ⟨r82, σ81, hc, h⟩ := bi_of h
          refine r_callV [.int ((-100 : Int32) - (σ76.1 0 9))] [] [.int r82]  (coX9_refused σ76 ((-100 : Int32) - (σ76.1 0 9)) r82 σ81 hc) mv_RX9_163 (by decide) rfl rfl rfl rfl rfl (Nat.le_of_ble_eq_true rfl) rfl dX9_yard_128 rfl ?_
          exact r_iret rfl dX9_yard_131 h hE
      · refine r_aload_n 0 dX9_yard_99 rfl rfl rfl ?_
        refine r_iconst dX9_yard_100 rfl ki_3 ?_
        obtain ⟨r84, σ83, hc, h⟩ := bi_of h
        refine r_callV [.int (3 : Int32)] [] [.int r84]  (coX9_failed σ74 (3 : Int32) r84 σ83 hc) mv_RX9_168 (by decide) rfl rfl rfl rfl rfl (Nat.le_of_ble_eq_true rfl) rfl dX9_yard_101 rfl ?_
        exact r_iret rfl dX9_yard_104 h hE
    · refine r_aload_n 0 dX9_yard_77 rfl rfl rfl ?_
      refine r_iconst dX9_yard_78 rfl ki_4 ?_
      obtain ⟨r86, σ85, hc, h⟩ := bi_of h
      refine r_callV [.int (4 : Int32)] [] [.int r86]  (coX9_failed σ (4 : Int32) r86 σ85 hc) mv_RX9_168 (by decide) rfl rfl rfl rfl rfl (Nat.le_of_ble_eq_true rfl) rfl dX9_yard_79 rfl ?_
      exact r_iret rfl dX9_yard_82 h hE
  · refine r_aload_n 0 dX9_yard_66 rfl rfl rfl ?_
    refine r_iconst dX9_yard_67 rfl ki_1 ?_
    obtain ⟨r88, σ87, hc, h⟩ := bi_of h
    refine r_callV [.int (1 : Int32)] [] [.int r88]  (coX9_failed σ (1 : Int32) r88 σ87 hc) mv_RX9_168 (by decide) rfl rfl rfl rfl rfl (Nat.le_of_ble_eq_true rfl) rfl dX9_yard_68 rfl ?_
    exact r_iret rfl dX9_yard_71 h hE
noncomputable def FX9_yard (σ : Mem) (a1 : Int32) (a2 : Int32) (a3 : Int32) (a4 : Int32) : Option (Int32 × Mem) :=
  bi (FX9_noSheet σ a1) fun r90 σ89 =>
  if r90 = 0 then
  (bi (FX9_in σ89 ((a2).toInt64) (0 : Int64) (2 : Int64)) fun r92 σ91 =>
  if r92 = 0 then
  (bi (FX9_refused σ91 (-2 : Int32)) fun r98 σ97 =>
  some (r98, σ97))
  else
  (rd a1 4 fun j93 =>
  if (σ91.1 28 j93) < 0 then
  (FX9_yard_57 σ91 a1 a3 a4)
  else
  (rd a1 4 fun j94 =>
  if (σ91.1 29 j94) = a2 then
  (FX9_yard_57 σ91 a1 a3 a4)
  else
  (bi (FX9_failed σ91 (2 : Int32)) fun r96 σ95 =>
  some (r96, σ95)))))
  else
  (bi (FX9_refused σ89 (-1 : Int32)) fun r100 σ99 =>
  some (r100, σ99))
set_option maxHeartbeats 4000000 in
set_option maxRecDepth 100000 in
theorem eX9_yard {X : CX} {out : Int32 × Mem} (hE : Ends X SM (some (.int out.1)) out.2) (σ : Mem) (a1 : Int32) (a2 : Int32) (a3 : Int32) (a4 : Int32) (h : FX9_yard σ a1 a2 a3 a4 = some out) : J X SM mX9_yard σ 0 [(0, .ref (xad X 0)), (1, .int a1), (2, .int a2), (3, .int a3), (4, .int a4)] [] := by
  refine r_iload_n 1 dX9_yard_0 rfl rfl rfl ?_
  obtain ⟨r90, σ89, hc, h⟩ := bi_of h
  refine r_callS [] [.int r90]  (coX9_noSheet σ a1 r90 σ89 hc) ms_RX9_159 (by decide) rfl rfl (Nat.le_of_ble_eq_true rfl) rfl dX9_yard_1 rfl ?_
  refine r_if_eq dX9_yard_4 rfl rfl h (fun c h => ?_) (fun c h => ?_)
  · refine r_iload_n 2 dX9_yard_13 rfl rfl rfl ?_
    refine r_i2l dX9_yard_14 rfl ?_
    refine r_lconst dX9_yard_15 rfl kl_0 ?_
    refine r_ldc2 dX9_yard_16 rfl cl_RX9_166 ?_
    obtain ⟨r92, σ91, hc, h⟩ := bi_of h
    refine r_callS [] [.int r92]  (coX9_in σ89 ((a2).toInt64) (0 : Int64) (2 : Int64) r92 σ91 hc) ms_RX9_142 (by decide) rfl rfl (Nat.le_of_ble_eq_true rfl) rfl dX9_yard_19 rfl ?_
    refine r_if_ne dX9_yard_22 rfl rfl h (fun c h => ?_) (fun c h => ?_)
    · refine r_aload_n 0 dX9_yard_32 rfl rfl rfl ?_
      refine r_getR fg_RX9_93 rfl rfl dX9_yard_33 rfl ?_
      refine r_iload_n 1 dX9_yard_36 rfl rfl rfl ?_
      refine r_iald rfl dX9_yard_37 rfl h (fun j93 h => ?_)
      refine r_if_lt dX9_yard_38 rfl rfl h (fun c h => ?_) (fun c h => ?_)
      · refine r_sub [0, 1, 3, 4] rfl ?_
        exact jX9_yard_57 hE σ91 a1 a3 a4 h
      · refine r_aload_n 0 dX9_yard_41 rfl rfl rfl ?_
        refine r_getR fg_RX9_96 rfl rfl dX9_yard_42 rfl ?_
        refine r_iload_n 1 dX9_yard_45 rfl rfl rfl ?_
        refine r_iald rfl dX9_yard_46 rfl h (fun j94 h => ?_)
        refine r_iload_n 2 dX9_yard_47 rfl rfl rfl ?_
        refine r_icmp_eq dX9_yard_48 rfl rfl h (fun c h => ?_) (fun c h => ?_)
        · refine r_sub [0, 1, 3, 4] rfl ?_
          exact jX9_yard_57 hE σ91 a1 a3 a4 h
        · refine r_aload_n 0 dX9_yard_51 rfl rfl rfl ?_
          refine r_iconst dX9_yard_52 rfl ki_2 ?_
          obtain ⟨r96, σ95, hc, h⟩ := bi_of h
          refine r_callV [.int (2 : Int32)] [] [.int r96]  (coX9_failed σ91 (2 : Int32) r96 σ95 hc) mv_RX9_168 (by decide) rfl rfl rfl rfl rfl (Nat.le_of_ble_eq_true rfl) rfl dX9_yard_53 rfl ?_
          exact r_iret rfl dX9_yard_56 h hE
    · refine r_aload_n 0 dX9_yard_25 rfl rfl rfl ?_
      refine r_bipush dX9_yard_26 rfl kb_m2 ?_
      obtain ⟨r98, σ97, hc, h⟩ := bi_of h
      refine r_callV [.int (-2 : Int32)] [] [.int r98]  (coX9_refused σ91 (-2 : Int32) r98 σ97 hc) mv_RX9_163 (by decide) rfl rfl rfl rfl rfl (Nat.le_of_ble_eq_true rfl) rfl dX9_yard_28 rfl ?_
      exact r_iret rfl dX9_yard_31 h hE
  · refine r_aload_n 0 dX9_yard_7 rfl rfl rfl ?_
    refine r_iconst dX9_yard_8 rfl ki_m1 ?_
    obtain ⟨r100, σ99, hc, h⟩ := bi_of h
    refine r_callV [.int (-1 : Int32)] [] [.int r100]  (coX9_refused σ89 (-1 : Int32) r100 σ99 hc) mv_RX9_163 (by decide) rfl rfl rfl rfl rfl (Nat.le_of_ble_eq_true rfl) rfl dX9_yard_9 rfl ?_
    exact r_iret rfl dX9_yard_12 h hE
theorem coX9_yard (σ : Mem) (a1 : Int32) (a2 : Int32) (a3 : Int32) (a4 : Int32) (r : Int32) (σ2 : Mem) (h : FX9_yard σ a1 a2 a3 a4 = some (r, σ2)) : Con SM 4 yX9_yard cX9_yard 6 (some .int) (fun ad => [.ref (ad 0), .int a1, .int a2, .int a3, .int a4]) σ (fun _ => some (.int r)) σ2 :=
  con_of (by decide +kernel) (fun _ => Nat.le_of_ble_eq_true rfl) (fun X hE => eX9_yard (out := (r, σ2)) hE σ a1 a2 a3 a4 h)

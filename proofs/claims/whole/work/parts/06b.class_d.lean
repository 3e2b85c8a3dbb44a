-- IceYard$Sheet cut
abbrev mX5_cut : MD := (cX5_cut, RX5, 2, (some .int), 1)
noncomputable def FX5_cut (o : Nat) (σ : Mem) (a1 : Int32) : Option (Int32 × Mem) :=
  if (σ.1 o 1) = (0 : Int32) then
  (some (((a1).toInt8.toInt32), σ))
  else
  (if (σ.1 o 1) = (1 : Int32) then
  (some (((a1).toInt16.toInt32), σ))
  else
  (some (a1, σ)))
set_option maxHeartbeats 4000000 in
set_option maxRecDepth 100000 in
theorem eX5_cut {X : CX} {out : Int32 × Mem} (o : Nat) (ho : shOk o) (hE : Ends X SX (some (.int out.1)) out.2) (σ : Mem) (a1 : Int32) (h : FX5_cut o σ a1 = some out) : J X SX mX5_cut σ 0 [(0, .ref (xad X o)), (1, .int a1)] [] := by
  refine r_aload_n 0 dX5_cut_0 rfl rfl rfl ?_
  refine r_getI fg_RX5_15 (sx_obj ho) rfl dX5_cut_1 rfl ?_
  refine cpI h (fun c h => ?_) (fun n4_0 h => ?_)
  · refine r_lookup dX5_cut_4 (by decide) (by rw [c] <;> rfl) rfl ?_
    refine r_iload_n 1 dX5_cut_32 rfl rfl rfl ?_
    refine r_i2b dX5_cut_33 rfl ?_
    exact r_iret rfl dX5_cut_34 h hE
  · refine cpI h (fun c h => ?_) (fun n4_1 h => ?_)
    · refine r_lookup dX5_cut_4 (by decide) (by rw [c] <;> rfl) rfl ?_
      refine r_iload_n 1 dX5_cut_35 rfl rfl rfl ?_
      refine r_i2s dX5_cut_36 rfl ?_
      exact r_iret rfl dX5_cut_37 h hE
    · refine r_lookup dX5_cut_4 (by decide) (by show Op.lookupswitch.offset [(0, 28), (1, 31)] (34) _ = _; rw [lv_osw n4_0 (by decide), lv_osw n4_1 (by decide)] <;> rfl) rfl ?_
      refine r_iload_n 1 dX5_cut_38 rfl rfl rfl ?_
      exact r_iret rfl dX5_cut_39 h hE
theorem coX5_cut (o : Nat) (ho : shOk o) (σ : Mem) (a1 : Int32) (r : Int32) (σ2 : Mem) (h : FX5_cut o σ a1 = some (r, σ2)) : Con SX 1 yX5_cut cX5_cut 2 (some .int) (fun ad => [.ref (ad o), .int a1]) σ (fun _ => some (.int r)) σ2 :=
  con_of (by decide +kernel) (fun _ => Nat.le_of_ble_eq_true rfl) (fun X hE => eX5_cut o ho (out := (r, σ2)) hE σ a1 h)
-- IceYard$Sheet write
abbrev mX5_write : MD := (cX5_write, RX5, 3, none, 2)
noncomputable def FX5_write (o : Nat) (σ : Mem) (a1 : Int32) (a2 : Int32) : Option (Mem) :=
  bi (FX5_hasCell o σ a1) fun r7 σ6 =>
  if r7 = 0 then
  (some σ6)
  else
  (bi (FX5_cut o σ6 a2) fun r9 σ8 =>
  stI σ8 (o + 4) 60 a1 r9 fun σ10 =>
  some σ10)
set_option maxHeartbeats 4000000 in
set_option maxRecDepth 100000 in
theorem eX5_write {X : CX} {out : Mem} (o : Nat) (ho : shOk o) (hE : Ends X SX none out) (σ : Mem) (a1 : Int32) (a2 : Int32) (h : FX5_write o σ a1 a2 = some out) : J X SX mX5_write σ 0 [(0, .ref (xad X o)), (1, .int a1), (2, .int a2)] [] := by
  refine r_aload_n 0 dX5_write_0 rfl rfl rfl ?_
  refine r_iload_n 1 dX5_write_1 rfl rfl rfl ?_
  obtain ⟨r7, σ6, hc, h⟩ := bi_of h
  refine r_callV [.int a1] [] [.int r7]  (coX5_hasCell o ho σ a1 r7 σ6 hc) mv_RX5_32 (by decide) (sx_obj ho) rfl rfl rfl rfl (Nat.le_of_ble_eq_true rfl) rfl dX5_write_2 rfl ?_
  refine r_if_eq dX5_write_5 rfl rfl h (fun c h => ?_) (fun c h => ?_)
  · exact r_vret rfl dX5_write_19 h hE
  · refine r_aload_n 0 dX5_write_8 rfl rfl rfl ?_
    refine r_getR fg_RX5_11 (sx_obj ho) rfl dX5_write_9 rfl ?_
    refine r_iload_n 1 dX5_write_12 rfl rfl rfl ?_
    refine r_aload_n 0 dX5_write_13 rfl rfl rfl ?_
    refine r_iload_n 2 dX5_write_14 rfl rfl rfl ?_
    obtain ⟨r9, σ8, hc, h⟩ := bi_of h
    refine r_callV [.int a2] [.int a1, .ref (xad X (o + 4))] [.int r9, .int a1, .ref (xad X (o + 4))]  (coX5_cut o ho σ6 a2 r9 σ8 hc) mv_RX5_36 (by decide) (sx_obj ho) rfl rfl rfl rfl (Nat.le_of_ble_eq_true rfl) rfl dX5_write_15 rfl ?_
    refine r_iast (sx_arr ho) dX5_write_18 rfl h (fun σ10 h => ?_)
    exact r_vret rfl dX5_write_19 h hE
theorem coX5_write (o : Nat) (ho : shOk o) (σ : Mem) (a1 : Int32) (a2 : Int32) (σ2 : Mem) (h : FX5_write o σ a1 a2 = some σ2) : Con SX 2 yX5_write cX5_write 3 none (fun ad => [.ref (ad o), .int a1, .int a2]) σ (fun _ => none) σ2 :=
  con_of (by decide +kernel) (fun _ => Nat.le_of_ble_eq_true rfl) (fun X hE => eX5_write o ho (out := σ2) hE σ a1 a2 h)
-- IceYard put
abbrev mX8_put : MD := (cX8_put, RX8, 5, (some .int), 3)
noncomputable def FX8_put (σ : Mem) (a1 : Int32) (a2 : Int32) (a3 : Int32) : Option (Int32 × Mem) :=
  nm (setI σ 0 12 (0 : Int32)) fun σ14 =>
  bi (FX8_sheetAt σ14 a1) fun v16 σ15 =>
  sh v16 (some ((-1 : Int32), σ15)) fun o_17 =>
  bi (FX5_hasNothing o_17 σ15) fun r19 σ18 =>
  if r19 = 0 then
  (bi (FX5_hasCell o_17 σ18 a2) fun r21 σ20 =>
  if r21 = 0 then
  (bi (FX8_faulty σ20 (3 : Int32)) fun r24 σ23 =>
  some (r24, σ23))
  else
  (bv (FX5_write o_17 σ20 a2 a3) fun σ22 =>
  some ((1 : Int32), σ22)))
  else
  (bi (FX8_faulty σ18 (1 : Int32)) fun r26 σ25 =>
  some (r26, σ25))
set_option maxHeartbeats 4000000 in
set_option maxRecDepth 100000 in
theorem eX8_put {X : CX} {out : Int32 × Mem} (hE : Ends X SX (some (.int out.1)) out.2) (σ : Mem) (a1 : Int32) (a2 : Int32) (a3 : Int32) (h : FX8_put σ a1 a2 a3 = some out) : J X SX mX8_put σ 0 [(0, .ref (xad X 0)), (1, .int a1), (2, .int a2), (3, .int a3)] [] := by
  refine r_aload_n 0 dX8_put_0 rfl rfl rfl ?_
  refine r_iconst dX8_put_1 rfl ki_0 ?_
  refine r_putI fp_RX8_73 rfl rfl dX8_put_2 rfl h (fun σ14 h => ?_)
  refine r_aload_n 0 dX8_put_5 rfl rfl rfl ?_
  refine r_iload_n 1 dX8_put_6 rfl rfl rfl ?_
  obtain ⟨v16, σ15, hc, h⟩ := bi_of h
  rcases sh_of h with ⟨hv, h⟩ | ⟨o_17, hv, ho_17, h⟩
  · rw [hv] at hc
    refine r_callV [.int a1] [] [.null]  (coX8_sheetAt σ14 a1 none σ15 hc) mv_RX8_77 (by decide) rfl rfl rfl rfl rfl (Nat.le_of_ble_eq_true rfl) rfl dX8_put_7 rfl ?_
    refine r_astoreN [(4, .null), (0, .ref (xad X 0)), (1, .int a1), (2, .int a2), (3, .int a3)] dX8_put_10 rfl (show 4 < 5 by decide) rfl ?_
    refine r_aloadN 0 dX8_put_12 rfl rfl ?_
    refine r_ifnonnullN dX8_put_14 rfl ?_
    refine r_iconst dX8_put_17 rfl ki_m1 ?_
    exact r_iret rfl dX8_put_18 h hE
  · rw [hv] at hc
    refine r_callV [.int a1] [] [.ref (xad X o_17)]  (coX8_sheetAt σ14 a1 (some o_17) σ15 hc) mv_RX8_77 (by decide) rfl rfl rfl rfl rfl (Nat.le_of_ble_eq_true rfl) rfl dX8_put_7 rfl ?_
    refine r_astore [(4, .ref (xad X o_17)), (0, .ref (xad X 0)), (1, .int a1), (2, .int a2), (3, .int a3)] dX8_put_10 rfl (show 4 < 5 by decide) rfl ?_
    refine r_aload 0 dX8_put_12 rfl rfl ?_
    refine r_ifnonnull dX8_put_14 rfl ?_
    refine r_aload 0 dX8_put_19 rfl rfl ?_
    obtain ⟨r19, σ18, hc, h⟩ := bi_of h
    refine r_callV [] [] [.int r19]  (coX5_hasNothing o_17 ho_17 σ15 r19 σ18 hc) mv_RX8_211 (by decide) (sx_obj ho_17) rfl rfl rfl rfl (Nat.le_of_ble_eq_true rfl) rfl dX8_put_21 rfl ?_
    refine r_if_eq dX8_put_24 rfl rfl h (fun c h => ?_) (fun c h => ?_)
    · refine r_aload 0 dX8_put_33 rfl rfl ?_
      refine r_iload_n 3 dX8_put_35 rfl rfl rfl ?_
      obtain ⟨r21, σ20, hc, h⟩ := bi_of h
      refine r_callV [.int a2] [] [.int r21]  (coX5_hasCell o_17 ho_17 σ18 a2 r21 σ20 hc) mv_RX8_218 (by decide) (sx_obj ho_17) rfl rfl rfl rfl (Nat.le_of_ble_eq_true rfl) rfl dX8_put_36 rfl ?_
      refine r_if_ne dX8_put_39 rfl rfl h (fun c h => ?_) (fun c h => ?_)
      · refine r_aload 0 dX8_put_48 rfl rfl ?_
        refine r_iload_n 3 dX8_put_50 rfl rfl rfl ?_
        refine r_iload_n 4 dX8_put_51 rfl rfl rfl ?_
        obtain ⟨σ22, hc, h⟩ := bv_of h
        refine r_callV [.int a2, .int a3] [] []  (coX5_write o_17 ho_17 σ20 a2 a3 σ22 hc) mv_RX8_221 (by decide) (sx_obj ho_17) rfl rfl rfl rfl (Nat.le_of_ble_eq_true rfl) rfl dX8_put_52 rfl ?_
        refine r_iconst dX8_put_55 rfl ki_1 ?_
        exact r_iret rfl dX8_put_56 h hE
      · refine r_aload_n 1 dX8_put_42 rfl rfl rfl ?_
        refine r_iconst dX8_put_43 rfl ki_3 ?_
        obtain ⟨r24, σ23, hc, h⟩ := bi_of h
        refine r_callV [.int (3 : Int32)] [] [.int r24]  (coX8_faulty σ20 (3 : Int32) r24 σ23 hc) mv_RX8_93 (by decide) rfl rfl rfl rfl rfl (Nat.le_of_ble_eq_true rfl) rfl dX8_put_44 rfl ?_
        exact r_iret rfl dX8_put_47 h hE
    · refine r_aload_n 1 dX8_put_27 rfl rfl rfl ?_
      refine r_iconst dX8_put_28 rfl ki_1 ?_
      obtain ⟨r26, σ25, hc, h⟩ := bi_of h
      refine r_callV [.int (1 : Int32)] [] [.int r26]  (coX8_faulty σ18 (1 : Int32) r26 σ25 hc) mv_RX8_93 (by decide) rfl rfl rfl rfl rfl (Nat.le_of_ble_eq_true rfl) rfl dX8_put_29 rfl ?_
      exact r_iret rfl dX8_put_32 h hE
theorem coX8_put (σ : Mem) (a1 : Int32) (a2 : Int32) (a3 : Int32) (r : Int32) (σ2 : Mem) (h : FX8_put σ a1 a2 a3 = some (r, σ2)) : Con SX 3 yX8_put cX8_put 5 (some .int) (fun ad => [.ref (ad 0), .int a1, .int a2, .int a3]) σ (fun _ => some (.int r)) σ2 :=
  con_of (by decide +kernel) (fun _ => Nat.le_of_ble_eq_true rfl) (fun X hE => eX8_put (out := (r, σ2)) hE σ a1 a2 a3 h)
-- IceYard$RowCount countRow
abbrev mX2_countRow : MD := (cX2_countRow, RX2, 3, none, 1)
noncomputable def FX2_countRow_37 (σ : Mem) : Option (Mem) :=
  nm (setI σ 5 5 ((σ.1 5 5) + (1 : Int32))) fun σ5 =>
  some σ5
set_option maxHeartbeats 4000000 in
set_option maxRecDepth 100000 in
theorem jX2_countRow_37 {X : CX} {out : Mem} (hE : Ends X SX none out) (σ : Mem) (h : FX2_countRow_37 σ = some out) : J X SX mX2_countRow σ 37 [(0, .ref (xad X 5))] [] := by
  refine r_aload_n 0 dX2_countRow_37 rfl rfl rfl ?_
  refine r_dup dX2_countRow_38 rfl rfl ?_
  refine r_getI fg_RX2_30 rfl rfl dX2_countRow_39 rfl ?_
  refine r_iconst dX2_countRow_42 rfl ki_1 ?_
  refine r_iadd dX2_countRow_43 rfl ?_
  refine r_putI fp_RX2_30 rfl rfl dX2_countRow_44 rfl h (fun σ5 h => ?_)
  exact r_vret rfl dX2_countRow_47 h hE
noncomputable def BX2_countRow_9 (rl9 : Mem → Int32 → Int32 → Option (Mem)) (σ : Mem) (x1 : Int32) (x2 : Int32) : Option (Mem) :=
  if x1 ≤ x2 then
  (FX2_countRow_37 σ)
  else
  (if (3 : Int32) ≤ x2 then
  (FX2_countRow_37 σ)
  else
  (rd x2 3 fun j6 =>
  stI σ 29 3 x2 (σ.1 28 j6) fun σ7 =>
  nm (x2 + (1 : Int32)) fun x_8 =>
  rl9 σ7 x1 x_8))
set_option maxHeartbeats 4000000 in
set_option maxRecDepth 100000 in
theorem jX2_countRow_9 {X : CX} {out : Mem} (hE : Ends X SX none out) (rl9 : Mem → Int32 → Int32 → Option (Mem)) (hr9 : ∀ (σ : Mem) (x1 : Int32) (x2 : Int32), rl9 σ x1 x2 = some out → J X SX mX2_countRow σ 9 [(0, .ref (xad X 5)), (1, .int x1), (2, .int x2)] []) (σ : Mem) (x1 : Int32) (x2 : Int32) (h : BX2_countRow_9 rl9 σ x1 x2 = some out) : J X SX mX2_countRow σ 9 [(0, .ref (xad X 5)), (1, .int x1), (2, .int x2)] [] := by
  refine r_iload_n 2 dX2_countRow_9 rfl rfl rfl ?_
  refine r_iload_n 1 dX2_countRow_10 rfl rfl rfl ?_
  refine r_icmp_ge dX2_countRow_11 rfl rfl h (fun c h => ?_) (fun c h => ?_)
  · refine r_sub [0] rfl ?_
    exact jX2_countRow_37 hE σ h
  · refine r_iload_n 2 dX2_countRow_14 rfl rfl rfl ?_
    refine r_iconst dX2_countRow_15 rfl ki_3 ?_
    refine r_icmp_ge dX2_countRow_16 rfl rfl h (fun c h => ?_) (fun c h => ?_)
    · refine r_sub [0] rfl ?_
      exact jX2_countRow_37 hE σ h
    · refine r_aload_n 0 dX2_countRow_19 rfl rfl rfl ?_
      refine r_getR fg_RX2_15 rfl rfl dX2_countRow_20 rfl ?_
      refine r_iload_n 2 dX2_countRow_23 rfl rfl rfl ?_
      refine r_aload_n 0 dX2_countRow_24 rfl rfl rfl ?_
      refine r_getR fg_RX2_11 rfl rfl dX2_countRow_25 rfl ?_
      refine r_iload_n 2 dX2_countRow_28 rfl rfl rfl ?_
      refine r_iald rfl dX2_countRow_29 rfl h (fun j6 h => ?_)
      refine r_iast rfl dX2_countRow_30 rfl h (fun σ7 h => ?_)
      refine r_iinc 2 (fun x_8 => [(2, .int x_8), (0, .ref (xad X 5)), (1, .int x1)]) dX2_countRow_31 rfl rfl ki_1 (show 2 < 3 by decide) (fun _ => rfl) h (fun x_8 h => ?_)
      refine r_goto dX2_countRow_34 rfl ?_
      refine r_sub [1, 2, 0] rfl ?_
      exact hr9 σ7 x1 x_8 h
noncomputable def FX2_countRow_9 (n : Nat) : Mem → Int32 → Int32 → Option (Mem) :=
  Nat.rec (fun _ _ _ => none) (fun _ ih => BX2_countRow_9 ih) n
theorem lX2_countRow_9 {X : CX} {out : Mem} (hE : Ends X SX none out) : ∀ (n : Nat) (σ : Mem) (x1 : Int32) (x2 : Int32), FX2_countRow_9 n σ x1 x2 = some out → J X SX mX2_countRow σ 9 [(0, .ref (xad X 5)), (1, .int x1), (2, .int x2)] [] := by
  intro n
  induction n with
  | zero => intro σ x1 x2 h; exact nn h
  | succ n ih => intro σ x1 x2 h; exact jX2_countRow_9 hE (FX2_countRow_9 n) ih σ x1 x2 h
noncomputable def FX2_countRow (σ : Mem) (a1 : Int32) : Option (Mem) :=
  if (σ.1 5 5) = 0 then
  (FX2_countRow_9 FU σ a1 (0 : Int32))
  else
  (FX2_countRow_37 σ)
set_option maxHeartbeats 4000000 in
set_option maxRecDepth 100000 in
theorem eX2_countRow {X : CX} {out : Mem} (hE : Ends X SX none out) (σ : Mem) (a1 : Int32) (h : FX2_countRow σ a1 = some out) : J X SX mX2_countRow σ 0 [(0, .ref (xad X 5)), (1, .int a1)] [] := by
  refine r_aload_n 0 dX2_countRow_0 rfl rfl rfl ?_
  refine r_getI fg_RX2_30 rfl rfl dX2_countRow_1 rfl ?_
  refine r_if_ne dX2_countRow_4 rfl rfl h (fun c h => ?_) (fun c h => ?_)
  · refine r_sub [0] rfl ?_
    exact jX2_countRow_37 hE σ h
  · refine r_iconst dX2_countRow_7 rfl ki_0 ?_
    refine r_istoreV_n [(2, .int (0 : Int32)), (0, .ref (xad X 5)), (1, .int a1)] dX2_countRow_8 rfl rfl (show 2 < 3 by decide) rfl ?_
    refine r_sub [1, 2, 0] rfl ?_
    exact lX2_countRow_9 hE FU σ a1 (0 : Int32) h
theorem coX2_countRow (σ : Mem) (a1 : Int32) (σ2 : Mem) (h : FX2_countRow σ a1 = some σ2) : Con SX 1 yX2_countRow cX2_countRow 3 none (fun ad => [.ref (ad 5), .int a1]) σ (fun _ => none) σ2 :=
  con_of (by decide +kernel) (fun _ => Nat.le_of_ble_eq_true rfl) (fun X hE => eX2_countRow (out := σ2) hE σ a1 h)
-- IceYard$RowCount walk
abbrev mX2_walk (dd : Nat) : MD := (cX2_walk, RX2, 11, none, dd + 1)
noncomputable def BX2_walk_34 (rc : Mem → Int64 → Int32 → Int32 → Int64 → Option (Mem)) (rl19 : Mem → Int64 → Int32 → Int32 → Int64 → Int32 → Option (Mem)) (rl34 : Mem → Int64 → Int32 → Int32 → Int64 → Int32 → Int32 → Option (Mem)) (σ : Mem) (x1 : Int64) (x3 : Int32) (x4 : Int32) (x5 : Int64) (x7 : Int32) (x8 : Int32) : Option (Mem) :=
  if (4 : Int32) ≤ x8 then
  (nm (x7 + (1 : Int32)) fun x_15 =>
  rl19 σ x1 x3 x4 x5 x_15)
  else
  (bi (FX6_goes σ x1 x7 x8) fun r17 σ16 =>
  if r17 = 0 then
  (nm (x8 + (1 : Int32)) fun x_28 =>
  rl34 σ16 x1 x3 x4 x5 x7 x_28)
  else
  (nm (x5 ||| (σ16.2 2 7)) fun x_18 =>
  if (lg_cmp (x_18 &&& ((σ16.2 5 4) ^^^ (-1 : Int64))) (0 : Int64)) = 0 then
  (bi (FX8_pushNumber σ16 x7 x8) fun r20 σ19 =>
  stI σ19 28 3 x3 r20 fun σ21 =>
  if x4 ≤ (x3 + (1 : Int32)) then
  (if (lg_cmp x_18 (σ21.2 5 4)) = 0 then
  (bv (FX2_countRow σ21 x4) fun σ23 =>
  nm (x8 + (1 : Int32)) fun x_24 =>
  rl34 σ23 x1 x3 x4 x5 x7 x_24)
  else
  (nm (x8 + (1 : Int32)) fun x_22 =>
  rl34 σ21 x1 x3 x4 x5 x7 x_22))
  else
  (bv (rc σ21 (σ21.2 2 6) (x3 + (1 : Int32)) x4 x_18) fun σ25 =>
  nm (x8 + (1 : Int32)) fun x_26 =>
  rl34 σ25 x1 x3 x4 x5 x7 x_26))
  else
  (nm (x8 + (1 : Int32)) fun x_27 =>
  rl34 σ16 x1 x3 x4 x5 x7 x_27)))
set_option maxHeartbeats 4000000 in
set_option maxRecDepth 100000 in
theorem jX2_walk_34 {X : CX} {out : Mem} (rc : Mem → Int64 → Int32 → Int32 → Int64 → Option (Mem)) {dd : Nat} (hdd : 4 ≤ dd) (hrc : ∀ (σ : Mem) (a1 : Int64) (a3 : Int32) (a4 : Int32) (a5 : Int64) (σ2 : Mem), rc σ a1 a3 a4 a5 = some σ2 → Con SX dd yX2_walk cX2_walk 11 none (fun ad => [.ref (ad 5), .long a1, .int a3, .int a4, .long a5]) σ (fun _ => none) σ2) (hE : Ends X SX none out) (rl19 : Mem → Int64 → Int32 → Int32 → Int64 → Int32 → Option (Mem)) (hr19 : ∀ (σ : Mem) (x1 : Int64) (x3 : Int32) (x4 : Int32) (x5 : Int64) (x7 : Int32), rl19 σ x1 x3 x4 x5 x7 = some out → J X SX (mX2_walk dd) σ 19 [(0, .ref (xad X 5)), (1, .long x1), (3, .int x3), (4, .int x4), (5, .long x5), (7, .int x7)] []) (rl34 : Mem → Int64 → Int32 → Int32 → Int64 → Int32 → Int32 → Option (Mem)) (hr34 : ∀ (σ : Mem) (x1 : Int64) (x3 : Int32) (x4 : Int32) (x5 : Int64) (x7 : Int32) (x8 : Int32), rl34 σ x1 x3 x4 x5 x7 x8 = some out → J X SX (mX2_walk dd) σ 34 [(0, .ref (xad X 5)), (1, .long x1), (3, .int x3), (4, .int x4), (5, .long x5), (7, .int x7), (8, .int x8)] []) (σ : Mem) (x1 : Int64) (x3 : Int32) (x4 : Int32) (x5 : Int64) (x7 : Int32) (x8 : Int32) (h : BX2_walk_34 rc rl19 rl34 σ x1 x3 x4 x5 x7 x8 = some out) : J X SX (mX2_walk dd) σ 34 [(0, .ref (xad X 5)), (1, .long x1), (3, .int x3), (4, .int x4), (5, .long x5), (7, .int x7), (8, .int x8)] [] := by
  refine r_iload 6 dX2_walk_34 rfl rfl ?_
  refine r_iconst dX2_walk_36 rfl ki_4 ?_
  refine r_icmp_ge dX2_walk_37 rfl rfl h (fun c h => ?_) (fun c h => ?_)
  · refine r_iinc 5 (fun x_15 => [(7, .int x_15), (0, .ref (xad X 5)), (1, .long x1), (3, .int x3), (4, .int x4), (5, .long x5), (8, .int x8)]) dX2_walk_153 rfl rfl ki_1 (show 7 < 11 by decide) (fun _ => rfl) h (fun x_15 h => ?_)
    refine r_goto dX2_walk_156 rfl ?_
    refine r_sub [1, 2, 3, 4, 5, 0] rfl ?_
    exact hr19 σ x1 x3 x4 x5 x_15 h
  · refine r_aload_n 0 dX2_walk_40 rfl rfl rfl ?_
    refine r_getR fg_RX2_22 rfl rfl dX2_walk_41 rfl ?_
    refine r_lload_n 1 dX2_walk_44 rfl rfl rfl ?_
    refine r_iload 5 dX2_walk_45 rfl rfl ?_
    refine r_iload 6 dX2_walk_47 rfl rfl ?_
    obtain ⟨r17, σ16, hc, h⟩ := bi_of h
    refine r_callV [.long x1, .int x7, .int x8] [] [.int r17]  (coX6_goes σ x1 x7 x8 r17 σ16 hc) mv_RX2_49 (Nat.lt_succ_of_le (Nat.le_trans (by decide) hdd)) rfl rfl rfl rfl rfl (Nat.le_of_ble_eq_true rfl) rfl dX2_walk_49 rfl ?_
    refine r_if_ne dX2_walk_52 rfl rfl h (fun c h => ?_) (fun c h => ?_)
    · refine r_lload 4 dX2_walk_58 rfl rfl ?_
      refine r_aload_n 0 dX2_walk_60 rfl rfl rfl ?_
      refine r_getR fg_RX2_22 rfl rfl dX2_walk_61 rfl ?_
      refine r_getL fg_RX2_55 rfl rfl dX2_walk_64 rfl ?_
      refine r_lor dX2_walk_67 rfl ?_
      refine r_lstore (fun x_18 => [(9, .long x_18), (0, .ref (xad X 5)), (1, .long x1), (3, .int x3), (4, .int x4), (5, .long x5), (7, .int x7), (8, .int x8)]) dX2_walk_68 rfl (show 9 + 1 < 11 by decide) (fun _ => rfl) h (fun x_18 h => ?_)
      refine r_lload 0 dX2_walk_70 rfl rfl ?_
      refine r_aload_n 1 dX2_walk_72 rfl rfl rfl ?_
      refine r_getL fg_RX2_26 rfl rfl dX2_walk_73 rfl ?_
      refine r_ldc2 dX2_walk_76 rfl cl_RX2_58 ?_
      refine r_lxor dX2_walk_79 rfl ?_
      refine r_land dX2_walk_80 rfl ?_
      refine r_lconst dX2_walk_81 rfl kl_0 ?_
      refine r_lcmp dX2_walk_82 rfl ?_
      refine r_if_eq dX2_walk_83 rfl rfl h (fun c h => ?_) (fun c h => ?_)
      · refine r_aload_n 1 dX2_walk_89 rfl rfl rfl ?_
        refine r_getR fg_RX2_11 rfl rfl dX2_walk_90 rfl ?_
        refine r_iload_n 3 dX2_walk_93 rfl rfl rfl ?_
        refine r_iload 6 dX2_walk_94 rfl rfl ?_
        refine r_iload 7 dX2_walk_96 rfl rfl ?_
        obtain ⟨r20, σ19, hc, h⟩ := bi_of h
        refine r_callN [.int x3, .ref (xad X 28)] [.int r20, .int x3, .ref (xad X 28)]  (coX8_pushNumber σ16 x7 x8 r20 σ19 hc) mn_RX2_60 (Nat.lt_succ_of_le (Nat.le_trans (by decide) hdd)) rfl rfl (Nat.le_of_ble_eq_true rfl) rfl dX2_walk_98 rfl ?_
        refine r_iast rfl dX2_walk_101 rfl h (fun σ21 h => ?_)
        refine r_iload_n 3 dX2_walk_102 rfl rfl rfl ?_
        refine r_iconst dX2_walk_103 rfl ki_1 ?_
        refine r_iadd dX2_walk_104 rfl ?_
        refine r_iload 4 dX2_walk_105 rfl rfl ?_
        refine r_icmp_ge dX2_walk_107 rfl rfl h (fun c h => ?_) (fun c h => ?_)
        · refine r_lload 0 dX2_walk_131 rfl rfl ?_
          refine r_aload_n 1 dX2_walk_133 rfl rfl rfl ?_
          refine r_getL fg_RX2_26 rfl rfl dX2_walk_134 rfl ?_
          refine r_lcmp dX2_walk_137 rfl ?_
          refine r_if_ne dX2_walk_138 rfl rfl h (fun c h => ?_) (fun c h => ?_)
          · refine r_iinc 7 (fun x_22 => [(8, .int x_22), (9, .long x_18), (0, .ref (xad X 5)), (1, .long x1), (3, .int x3), (4, .int x4), (5, .long x5), (7, .int x7)]) dX2_walk_147 rfl rfl ki_1 (show 8 < 11 by decide) (fun _ => rfl) h (fun x_22 h => ?_)
            refine r_goto dX2_walk_150 rfl ?_
            refine r_sub [2, 3, 4, 5, 6, 7, 0] rfl ?_
            exact hr34 σ21 x1 x3 x4 x5 x7 x_22 h
          · refine r_aload_n 1 dX2_walk_141 rfl rfl rfl ?_
            refine r_iload 4 dX2_walk_142 rfl rfl ?_
            obtain ⟨σ23, hc, h⟩ := bv_of h
            refine r_callV [.int x4] [] []  (coX2_countRow σ21 x4 σ23 hc) mv_RX2_66 (Nat.lt_succ_of_le (Nat.le_trans (by decide) hdd)) rfl rfl rfl rfl rfl (Nat.le_of_ble_eq_true rfl) rfl dX2_walk_144 rfl ?_
            refine r_iinc 7 (fun x_24 => [(8, .int x_24), (9, .long x_18), (0, .ref (xad X 5)), (1, .long x1), (3, .int x3), (4, .int x4), (5, .long x5), (7, .int x7)]) dX2_walk_147 rfl rfl ki_1 (show 8 < 11 by decide) (fun _ => rfl) h (fun x_24 h => ?_)
            refine r_goto dX2_walk_150 rfl ?_
            refine r_sub [2, 3, 4, 5, 6, 7, 0] rfl ?_
            exact hr34 σ23 x1 x3 x4 x5 x7 x_24 h
        · refine r_aload_n 1 dX2_walk_110 rfl rfl rfl ?_
          refine r_aload_n 1 dX2_walk_111 rfl rfl rfl ?_
          refine r_getR fg_RX2_22 rfl rfl dX2_walk_112 rfl ?_
          refine r_getL fg_RX2_63 rfl rfl dX2_walk_115 rfl ?_
          refine r_iload_n 3 dX2_walk_118 rfl rfl rfl ?_
          refine r_iconst dX2_walk_119 rfl ki_1 ?_
          refine r_iadd dX2_walk_120 rfl ?_
          refine r_iload 4 dX2_walk_121 rfl rfl ?_
          refine r_lload 0 dX2_walk_123 rfl rfl ?_
          obtain ⟨σ25, hc, h⟩ := bv_of h
          refine r_callV [.long (σ21.2 2 6), .int (x3 + (1 : Int32)), .int x4, .long x_18] [] []  (hrc σ21 (σ21.2 2 6) (x3 + (1 : Int32)) x4 x_18 σ25 hc) mv_RX2_40 (Nat.lt_succ_self dd) rfl rfl rfl rfl rfl (Nat.le_of_ble_eq_true rfl) rfl dX2_walk_125 rfl ?_
          refine r_goto dX2_walk_128 rfl ?_
          refine r_iinc 7 (fun x_26 => [(8, .int x_26), (9, .long x_18), (0, .ref (xad X 5)), (1, .long x1), (3, .int x3), (4, .int x4), (5, .long x5), (7, .int x7)]) dX2_walk_147 rfl rfl ki_1 (show 8 < 11 by decide) (fun _ => rfl) h (fun x_26 h => ?_)
          refine r_goto dX2_walk_150 rfl ?_
          refine r_sub [2, 3, 4, 5, 6, 7, 0] rfl ?_
          exact hr34 σ25 x1 x3 x4 x5 x7 x_26 h
      · refine r_goto dX2_walk_86 rfl ?_
        refine r_iinc 7 (fun x_27 => [(8, .int x_27), (9, .long x_18), (0, .ref (xad X 5)), (1, .long x1), (3, .int x3), (4, .int x4), (5, .long x5), (7, .int x7)]) dX2_walk_147 rfl rfl ki_1 (show 8 < 11 by decide) (fun _ => rfl) h (fun x_27 h => ?_)
        refine r_goto dX2_walk_150 rfl ?_
        refine r_sub [2, 3, 4, 5, 6, 7, 0] rfl ?_
        exact hr34 σ16 x1 x3 x4 x5 x7 x_27 h
    · refine r_goto dX2_walk_55 rfl ?_
      refine r_iinc 6 (fun x_28 => [(8, .int x_28), (0, .ref (xad X 5)), (1, .long x1), (3, .int x3), (4, .int x4), (5, .long x5), (7, .int x7)]) dX2_walk_147 rfl rfl ki_1 (show 8 < 11 by decide) (fun _ => rfl) h (fun x_28 h => ?_)
      refine r_goto dX2_walk_150 rfl ?_
      refine r_sub [1, 2, 3, 4, 5, 6, 0] rfl ?_
      exact hr34 σ16 x1 x3 x4 x5 x7 x_28 h
noncomputable def FX2_walk_34 (rc : Mem → Int64 → Int32 → Int32 → Int64 → Option (Mem)) (rl19 : Mem → Int64 → Int32 → Int32 → Int64 → Int32 → Option (Mem)) (n : Nat) : Mem → Int64 → Int32 → Int32 → Int64 → Int32 → Int32 → Option (Mem) :=
  Nat.rec (fun _ _ _ _ _ _ _ => none) (fun _ ih => BX2_walk_34 rc rl19 ih) n
theorem lX2_walk_34 {X : CX} {out : Mem} (rc : Mem → Int64 → Int32 → Int32 → Int64 → Option (Mem)) {dd : Nat} (hdd : 4 ≤ dd) (hrc : ∀ (σ : Mem) (a1 : Int64) (a3 : Int32) (a4 : Int32) (a5 : Int64) (σ2 : Mem), rc σ a1 a3 a4 a5 = some σ2 → Con SX dd yX2_walk cX2_walk 11 none (fun ad => [.ref (ad 5), .long a1, .int a3, .int a4, .long a5]) σ (fun _ => none) σ2) (hE : Ends X SX none out) (rl19 : Mem → Int64 → Int32 → Int32 → Int64 → Int32 → Option (Mem)) (hr19 : ∀ (σ : Mem) (x1 : Int64) (x3 : Int32) (x4 : Int32) (x5 : Int64) (x7 : Int32), rl19 σ x1 x3 x4 x5 x7 = some out → J X SX (mX2_walk dd) σ 19 [(0, .ref (xad X 5)), (1, .long x1), (3, .int x3), (4, .int x4), (5, .long x5), (7, .int x7)] []) : ∀ (n : Nat) (σ : Mem) (x1 : Int64) (x3 : Int32) (x4 : Int32) (x5 : Int64) (x7 : Int32) (x8 : Int32), FX2_walk_34 rc rl19 n σ x1 x3 x4 x5 x7 x8 = some out → J X SX (mX2_walk dd) σ 34 [(0, .ref (xad X 5)), (1, .long x1), (3, .int x3), (4, .int x4), (5, .long x5), (7, .int x7), (8, .int x8)] [] := by
  intro n
  induction n with
  | zero => intro σ x1 x3 x4 x5 x7 x8 h; exact nn h
  | succ n ih => intro σ x1 x3 x4 x5 x7 x8 h; exact jX2_walk_34 rc hdd hrc hE rl19 hr19 (FX2_walk_34 rc rl19 n) ih σ x1 x3 x4 x5 x7 x8 h
noncomputable def BX2_walk_19 (rc : Mem → Int64 → Int32 → Int32 → Int64 → Option (Mem)) (rl19 : Mem → Int64 → Int32 → Int32 → Int64 → Int32 → Option (Mem)) (σ : Mem) (x1 : Int64) (x3 : Int32) (x4 : Int32) (x5 : Int64) (x7 : Int32) : Option (Mem) :=
  if (σ.1 1 6) ≤ x7 then
  (some σ)
  else
  (FX2_walk_34 rc rl19 FU σ x1 x3 x4 x5 x7 (0 : Int32))
set_option maxHeartbeats 4000000 in
set_option maxRecDepth 100000 in
theorem jX2_walk_19 {X : CX} {out : Mem} (rc : Mem → Int64 → Int32 → Int32 → Int64 → Option (Mem)) {dd : Nat} (hdd : 4 ≤ dd) (hrc : ∀ (σ : Mem) (a1 : Int64) (a3 : Int32) (a4 : Int32) (a5 : Int64) (σ2 : Mem), rc σ a1 a3 a4 a5 = some σ2 → Con SX dd yX2_walk cX2_walk 11 none (fun ad => [.ref (ad 5), .long a1, .int a3, .int a4, .long a5]) σ (fun _ => none) σ2) (hE : Ends X SX none out) (rl19 : Mem → Int64 → Int32 → Int32 → Int64 → Int32 → Option (Mem)) (hr19 : ∀ (σ : Mem) (x1 : Int64) (x3 : Int32) (x4 : Int32) (x5 : Int64) (x7 : Int32), rl19 σ x1 x3 x4 x5 x7 = some out → J X SX (mX2_walk dd) σ 19 [(0, .ref (xad X 5)), (1, .long x1), (3, .int x3), (4, .int x4), (5, .long x5), (7, .int x7)] []) (σ : Mem) (x1 : Int64) (x3 : Int32) (x4 : Int32) (x5 : Int64) (x7 : Int32) (h : BX2_walk_19 rc rl19 σ x1 x3 x4 x5 x7 = some out) : J X SX (mX2_walk dd) σ 19 [(0, .ref (xad X 5)), (1, .long x1), (3, .int x3), (4, .int x4), (5, .long x5), (7, .int x7)] [] := by
  refine r_iload 5 dX2_walk_19 rfl rfl ?_
  refine r_aload_n 0 dX2_walk_21 rfl rfl rfl ?_
  refine r_getR fg_RX2_18 rfl rfl dX2_walk_22 rfl ?_
  refine r_getI fg_RX2_44 rfl rfl dX2_walk_25 rfl ?_
  refine r_icmp_ge dX2_walk_28 rfl rfl h (fun c h => ?_) (fun c h => ?_)
  · exact r_vret rfl dX2_walk_159 h hE
  · refine r_iconst dX2_walk_31 rfl ki_0 ?_
    refine r_istoreV [(8, .int (0 : Int32)), (0, .ref (xad X 5)), (1, .long x1), (3, .int x3), (4, .int x4), (5, .long x5), (7, .int x7)] dX2_walk_32 rfl (show 8 < 11 by decide) rfl ?_
    refine r_sub [1, 2, 3, 4, 5, 6, 0] rfl ?_
    exact lX2_walk_34 rc hdd hrc hE rl19 hr19 FU σ x1 x3 x4 x5 x7 (0 : Int32) h
noncomputable def FX2_walk_19 (rc : Mem → Int64 → Int32 → Int32 → Int64 → Option (Mem)) (n : Nat) : Mem → Int64 → Int32 → Int32 → Int64 → Int32 → Option (Mem) :=
  Nat.rec (fun _ _ _ _ _ _ => none) (fun _ ih => BX2_walk_19 rc ih) n
theorem lX2_walk_19 {X : CX} {out : Mem} (rc : Mem → Int64 → Int32 → Int32 → Int64 → Option (Mem)) {dd : Nat} (hdd : 4 ≤ dd) (hrc : ∀ (σ : Mem) (a1 : Int64) (a3 : Int32) (a4 : Int32) (a5 : Int64) (σ2 : Mem), rc σ a1 a3 a4 a5 = some σ2 → Con SX dd yX2_walk cX2_walk 11 none (fun ad => [.ref (ad 5), .long a1, .int a3, .int a4, .long a5]) σ (fun _ => none) σ2) (hE : Ends X SX none out) : ∀ (n : Nat) (σ : Mem) (x1 : Int64) (x3 : Int32) (x4 : Int32) (x5 : Int64) (x7 : Int32), FX2_walk_19 rc n σ x1 x3 x4 x5 x7 = some out → J X SX (mX2_walk dd) σ 19 [(0, .ref (xad X 5)), (1, .long x1), (3, .int x3), (4, .int x4), (5, .long x5), (7, .int x7)] [] := by
  intro n
  induction n with
  | zero => intro σ x1 x3 x4 x5 x7 h; exact nn h
  | succ n ih => intro σ x1 x3 x4 x5 x7 h; exact jX2_walk_19 rc hdd hrc hE (FX2_walk_19 rc n) ih σ x1 x3 x4 x5 x7 h
noncomputable def FX2_walk (rc : Mem → Int64 → Int32 → Int32 → Int64 → Option (Mem)) (σ : Mem) (a1 : Int64) (a3 : Int32) (a4 : Int32) (a5 : Int64) : Option (Mem) :=
  if a3 < 0 then
  (some σ)
  else
  (if a4 ≤ a3 then
  (some σ)
  else
  (if a3 < (3 : Int32) then
  (FX2_walk_19 rc FU σ a1 a3 a4 a5 (0 : Int32))
  else
  (some σ)))
set_option maxHeartbeats 4000000 in
set_option maxRecDepth 100000 in
theorem eX2_walk {X : CX} {out : Mem} (rc : Mem → Int64 → Int32 → Int32 → Int64 → Option (Mem)) {dd : Nat} (hdd : 4 ≤ dd) (hrc : ∀ (σ : Mem) (a1 : Int64) (a3 : Int32) (a4 : Int32) (a5 : Int64) (σ2 : Mem), rc σ a1 a3 a4 a5 = some σ2 → Con SX dd yX2_walk cX2_walk 11 none (fun ad => [.ref (ad 5), .long a1, .int a3, .int a4, .long a5]) σ (fun _ => none) σ2) (hE : Ends X SX none out) (σ : Mem) (a1 : Int64) (a3 : Int32) (a4 : Int32) (a5 : Int64) (h : FX2_walk rc σ a1 a3 a4 a5 = some out) : J X SX (mX2_walk dd) σ 0 [(0, .ref (xad X 5)), (1, .long a1), (3, .int a3), (4, .int a4), (5, .long a5)] [] := by
  refine r_iload_n 2 dX2_walk_0 rfl rfl rfl ?_
  refine r_if_lt dX2_walk_1 rfl rfl h (fun c h => ?_) (fun c h => ?_)
  · exact r_vret rfl dX2_walk_15 h hE
  · refine r_iload_n 2 dX2_walk_4 rfl rfl rfl ?_
    refine r_iload 3 dX2_walk_5 rfl rfl ?_
    refine r_icmp_ge dX2_walk_7 rfl rfl h (fun c h => ?_) (fun c h => ?_)
    · exact r_vret rfl dX2_walk_15 h hE
    · refine r_iload_n 2 dX2_walk_10 rfl rfl rfl ?_
      refine r_iconst dX2_walk_11 rfl ki_3 ?_
      refine r_icmp_lt dX2_walk_12 rfl rfl h (fun c h => ?_) (fun c h => ?_)
      · refine r_iconst dX2_walk_16 rfl ki_0 ?_
        refine r_istoreV [(7, .int (0 : Int32)), (0, .ref (xad X 5)), (1, .long a1), (3, .int a3), (4, .int a4), (5, .long a5)] dX2_walk_17 rfl (show 7 < 11 by decide) rfl ?_
        refine r_sub [1, 2, 3, 4, 5, 0] rfl ?_
        exact lX2_walk_19 rc hdd hrc hE FU σ a1 a3 a4 a5 (0 : Int32) h
      · exact r_vret rfl dX2_walk_15 h hE
theorem coX2_walk (rc : Mem → Int64 → Int32 → Int32 → Int64 → Option (Mem)) {dd : Nat} (hdd : 4 ≤ dd) (hrc : ∀ (σ : Mem) (a1 : Int64) (a3 : Int32) (a4 : Int32) (a5 : Int64) (σ2 : Mem), rc σ a1 a3 a4 a5 = some σ2 → Con SX dd yX2_walk cX2_walk 11 none (fun ad => [.ref (ad 5), .long a1, .int a3, .int a4, .long a5]) σ (fun _ => none) σ2) (σ : Mem) (a1 : Int64) (a3 : Int32) (a4 : Int32) (a5 : Int64) (σ2 : Mem) (h : FX2_walk rc σ a1 a3 a4 a5 = some σ2) : Con SX (dd + 1) yX2_walk cX2_walk 11 none (fun ad => [.ref (ad 5), .long a1, .int a3, .int a4, .long a5]) σ (fun _ => none) σ2 :=
  con_of (by decide +kernel) (fun _ => Nat.le_of_ble_eq_true rfl) (fun X hE => eX2_walk rc hdd hrc (out := σ2) hE σ a1 a3 a4 a5 h)
noncomputable def FRX2_walk (d : Nat) : Mem → Int64 → Int32 → Int32 → Int64 → Option (Mem) :=
  Nat.rec (fun _ _ _ _ _ => none) (fun _ ih => FX2_walk ih) d
theorem crX2_walk : ∀ (d : Nat) (σ : Mem) (a1 : Int64) (a3 : Int32) (a4 : Int32) (a5 : Int64) (σ2 : Mem), FRX2_walk d σ a1 a3 a4 a5 = some σ2 → Con SX (4 + d) yX2_walk cX2_walk 11 none (fun ad => [.ref (ad 5), .long a1, .int a3, .int a4, .long a5]) σ (fun _ => none) σ2 := by
  intro d
  induction d with
  | zero => intro σ a1 a3 a4 a5 σ2 h; exact nn h
  | succ n ih => intro σ a1 a3 a4 a5 σ2 h; exact coX2_walk (FRX2_walk n) (dd := 4 + n) (Nat.le_add_right _ _) ih σ a1 a3 a4 a5 σ2 h
noncomputable def FTX2_walk : Mem → Int64 → Int32 → Int32 → Int64 → Option (Mem) := FRX2_walk 14
theorem ctX2_walk (σ : Mem) (a1 : Int64) (a3 : Int32) (a4 : Int32) (a5 : Int64) (σ2 : Mem) (h : FTX2_walk σ a1 a3 a4 a5 = some σ2) : Con SX 18 yX2_walk cX2_walk 11 none (fun ad => [.ref (ad 5), .long a1, .int a3, .int a4, .long a5]) σ (fun _ => none) σ2 := crX2_walk 14 σ a1 a3 a4 a5 σ2 h
-- IceYard$RowCount count
abbrev mX2_count : MD := (cX2_count, RX2, 6, (some .int), 19)
noncomputable def FX2_count (σ : Mem) (a1 : Int64) (a3 : Int32) (a4 : Int64) : Option (Int32 × Mem) :=
  nm (setL σ 5 4 a4) fun σ4 =>
  nm (setI σ4 5 5 (0 : Int32)) fun σ5 =>
  bv (FTX2_walk σ5 a1 (0 : Int32) (if (3 : Int32) < a3 then (3 : Int32) else a3) (0 : Int64)) fun σ6 =>
  some ((σ6.1 5 5), σ6)
set_option maxHeartbeats 4000000 in
set_option maxRecDepth 100000 in
theorem eX2_count {X : CX} {out : Int32 × Mem} (hE : Ends X SX (some (.int out.1)) out.2) (σ : Mem) (a1 : Int64) (a3 : Int32) (a4 : Int64) (h : FX2_count σ a1 a3 a4 = some out) : J X SX mX2_count σ 0 [(0, .ref (xad X 5)), (1, .long a1), (3, .int a3), (4, .long a4)] [] := by
  refine r_aload_n 0 dX2_count_0 rfl rfl rfl ?_
  refine r_lload 3 dX2_count_1 rfl rfl ?_
  refine r_putL fp_RX2_26 rfl rfl dX2_count_3 rfl h (fun σ4 h => ?_)
  refine r_aload_n 0 dX2_count_6 rfl rfl rfl ?_
  refine r_iconst dX2_count_7 rfl ki_0 ?_
  refine r_putI fp_RX2_30 rfl rfl dX2_count_8 rfl h (fun σ5 h => ?_)
  refine r_aload_n 0 dX2_count_11 rfl rfl rfl ?_
  refine r_lload_n 1 dX2_count_12 rfl rfl rfl ?_
  refine r_iconst dX2_count_13 rfl ki_0 ?_
  refine r_iload_n 2 dX2_count_14 rfl rfl rfl ?_
  refine r_iconst dX2_count_15 rfl ki_3 ?_
  refine r_min mm_RX2_34 (show 1 ≤ 19 by decide) (Nat.le_of_ble_eq_true rfl) dX2_count_16 rfl ?_
  refine r_lconst dX2_count_19 rfl kl_0 ?_
  obtain ⟨σ6, hc, h⟩ := bv_of h
  refine r_callV [.long a1, .int (0 : Int32), .int (if (3 : Int32) < a3 then (3 : Int32) else a3), .long (0 : Int64)] [] []  (ctX2_walk σ5 a1 (0 : Int32) (if (3 : Int32) < a3 then (3 : Int32) else a3) (0 : Int64) σ6 hc) mv_RX2_40 (by decide) rfl rfl rfl rfl rfl (Nat.le_of_ble_eq_true rfl) rfl dX2_count_20 rfl ?_
  refine r_aload_n 0 dX2_count_23 rfl rfl rfl ?_
  refine r_getI fg_RX2_30 rfl rfl dX2_count_24 rfl ?_
  exact r_iret rfl dX2_count_27 h hE
theorem coX2_count (σ : Mem) (a1 : Int64) (a3 : Int32) (a4 : Int64) (r : Int32) (σ2 : Mem) (h : FX2_count σ a1 a3 a4 = some (r, σ2)) : Con SX 19 yX2_count cX2_count 6 (some .int) (fun ad => [.ref (ad 5), .long a1, .int a3, .long a4]) σ (fun _ => some (.int r)) σ2 :=
  con_of (by decide +kernel) (fun _ => Nat.le_of_ble_eq_true rfl) (fun X hE => eX2_count (out := (r, σ2)) hE σ a1 a3 a4 h)
-- IceYard$RowCount pushAt
abbrev mX2_pushAt : MD := (cX2_pushAt, RX2, 2, (some .int), 1)
noncomputable def FX2_pushAt (σ : Mem) (a1 : Int32) : Option (Int32 × Mem) :=
  if a1 < 0 then
  (some ((-9 : Int32), σ))
  else
  (if (3 : Int32) ≤ a1 then
  (some ((-9 : Int32), σ))
  else
  (rd a1 3 fun j2 =>
  some ((σ.1 29 j2), σ)))
set_option maxHeartbeats 4000000 in
set_option maxRecDepth 100000 in
theorem eX2_pushAt {X : CX} {out : Int32 × Mem} (hE : Ends X SX (some (.int out.1)) out.2) (σ : Mem) (a1 : Int32) (h : FX2_pushAt σ a1 = some out) : J X SX mX2_pushAt σ 0 [(0, .ref (xad X 5)), (1, .int a1)] [] := by
  refine r_iload_n 1 dX2_pushAt_0 rfl rfl rfl ?_
  refine r_if_lt dX2_pushAt_1 rfl rfl h (fun c h => ?_) (fun c h => ?_)
  · refine r_bipush dX2_pushAt_18 rfl kb_m9 ?_
    exact r_iret rfl dX2_pushAt_20 h hE
  · refine r_iload_n 1 dX2_pushAt_4 rfl rfl rfl ?_
    refine r_iconst dX2_pushAt_5 rfl ki_3 ?_
    refine r_icmp_ge dX2_pushAt_6 rfl rfl h (fun c h => ?_) (fun c h => ?_)
    · refine r_bipush dX2_pushAt_18 rfl kb_m9 ?_
      exact r_iret rfl dX2_pushAt_20 h hE
    · refine r_aload_n 0 dX2_pushAt_9 rfl rfl rfl ?_
      refine r_getR fg_RX2_15 rfl rfl dX2_pushAt_10 rfl ?_
      refine r_iload_n 1 dX2_pushAt_13 rfl rfl rfl ?_
      refine r_iald rfl dX2_pushAt_14 rfl h (fun j2 h => ?_)
      refine r_goto dX2_pushAt_15 rfl ?_
      exact r_iret rfl dX2_pushAt_20 h hE
theorem coX2_pushAt (σ : Mem) (a1 : Int32) (r : Int32) (σ2 : Mem) (h : FX2_pushAt σ a1 = some (r, σ2)) : Con SX 1 yX2_pushAt cX2_pushAt 2 (some .int) (fun ad => [.ref (ad 5), .int a1]) σ (fun _ => some (.int r)) σ2 :=
  con_of (by decide +kernel) (fun _ => Nat.le_of_ble_eq_true rfl) (fun X hE => eX2_pushAt (out := (r, σ2)) hE σ a1 h)
-- IceYard rows
abbrev mX8_rows : MD := (cX8_rows, RX8, 6, (some .int), 20)
noncomputable def FX8_rows (σ : Mem) (a1 : Int32) (a2 : Int64) (a4 : Int32) : Option (Int32 × Mem) :=
  if a1 < (1 : Int32) then
  (some ((-2 : Int32), σ))
  else
  (if (3 : Int32) < a1 then
  (some ((-2 : Int32), σ))
  else
  (if (lg_cmp a2 (0 : Int64)) < 0 then
  (some ((-2 : Int32), σ))
  else
  (bi (FX1_cells σ) fun r8 σ7 =>
  if (lg_cmp (((a2).toUInt64 >>> ((r8).toInt64.toUInt64 &&& Int64.toUInt64 63)).toInt64) (0 : Int64)) = 0 then
  (if a4 < (-1 : Int32) then
  (some ((-1 : Int32), σ7))
  else
  (if a4 < a1 then
  (bi (FX2_count σ7 (σ7.2 0 9) a1 a2) fun r10 σ9 =>
  if a4 = (-1 : Int32) then
  (some (r10, σ9))
  else
  (if r10 = 0 then
  (some ((-9 : Int32), σ9))
  else
  (bi (FX2_pushAt σ9 a4) fun r12 σ11 =>
  some (r12, σ11))))
  else
  (some ((-1 : Int32), σ7))))
  else
  (some ((-2 : Int32), σ7)))))
set_option maxHeartbeats 4000000 in
set_option maxRecDepth 100000 in
theorem eX8_rows {X : CX} {out : Int32 × Mem} (hE : Ends X SX (some (.int out.1)) out.2) (σ : Mem) (a1 : Int32) (a2 : Int64) (a4 : Int32) (h : FX8_rows σ a1 a2 a4 = some out) : J X SX mX8_rows σ 0 [(0, .ref (xad X 0)), (1, .int a1), (2, .long a2), (4, .int a4)] [] := by
  refine r_iload_n 1 dX8_rows_0 rfl rfl rfl ?_
  refine r_iconst dX8_rows_1 rfl ki_1 ?_
  refine r_icmp_lt dX8_rows_2 rfl rfl h (fun c h => ?_) (fun c h => ?_)
  · refine r_bipush dX8_rows_30 rfl kb_m2 ?_
    exact r_iret rfl dX8_rows_32 h hE
  · refine r_iload_n 1 dX8_rows_5 rfl rfl rfl ?_
    refine r_iconst dX8_rows_6 rfl ki_3 ?_
    refine r_icmp_gt dX8_rows_7 rfl rfl h (fun c h => ?_) (fun c h => ?_)
    · refine r_bipush dX8_rows_30 rfl kb_m2 ?_
      exact r_iret rfl dX8_rows_32 h hE
    · refine r_lload_n 2 dX8_rows_10 rfl rfl rfl ?_
      refine r_lconst dX8_rows_11 rfl kl_0 ?_
      refine r_lcmp dX8_rows_12 rfl ?_
      refine r_if_lt dX8_rows_13 rfl rfl h (fun c h => ?_) (fun c h => ?_)
      · refine r_bipush dX8_rows_30 rfl kb_m2 ?_
        exact r_iret rfl dX8_rows_32 h hE
      · refine r_lload_n 2 dX8_rows_16 rfl rfl rfl ?_
        refine r_aload_n 0 dX8_rows_17 rfl rfl rfl ?_
        refine r_getR fg_RX8_14 rfl rfl dX8_rows_18 rfl ?_
        obtain ⟨r8, σ7, hc, h⟩ := bi_of h
        refine r_callV [] [.long a2] [.int r8, .long a2]  (coX1_cells σ r8 σ7 hc) mv_RX8_132 (by decide) rfl rfl rfl rfl rfl (Nat.le_of_ble_eq_true rfl) rfl dX8_rows_21 rfl ?_
        refine r_lushr dX8_rows_24 rfl ?_
        refine r_lconst dX8_rows_25 rfl kl_0 ?_
        refine r_lcmp dX8_rows_26 rfl ?_
        refine r_if_eq dX8_rows_27 rfl rfl h (fun c h => ?_) (fun c h => ?_)
        · refine r_iload 3 dX8_rows_33 rfl rfl ?_
          refine r_iconst dX8_rows_35 rfl ki_m1 ?_
          refine r_icmp_lt dX8_rows_36 rfl rfl h (fun c h => ?_) (fun c h => ?_)
          · refine r_iconst dX8_rows_45 rfl ki_m1 ?_
            exact r_iret rfl dX8_rows_46 h hE
          · refine r_iload 3 dX8_rows_39 rfl rfl ?_
            refine r_iload_n 1 dX8_rows_41 rfl rfl rfl ?_
            refine r_icmp_lt dX8_rows_42 rfl rfl h (fun c h => ?_) (fun c h => ?_)
            · refine r_aload_n 0 dX8_rows_47 rfl rfl rfl ?_
              refine r_getR fg_RX8_46 rfl rfl dX8_rows_48 rfl ?_
              refine r_aload_n 0 dX8_rows_51 rfl rfl rfl ?_
              refine r_getL fg_RX8_119 rfl rfl dX8_rows_52 rfl ?_
              refine r_iload_n 1 dX8_rows_55 rfl rfl rfl ?_
              refine r_lload_n 2 dX8_rows_56 rfl rfl rfl ?_
              obtain ⟨r10, σ9, hc, h⟩ := bi_of h
              refine r_callV [.long (σ7.2 0 9), .int a1, .long a2] [] [.int r10]  (coX2_count σ7 (σ7.2 0 9) a1 a2 r10 σ9 hc) mv_RX8_184 (by decide) rfl rfl rfl rfl rfl (Nat.le_of_ble_eq_true rfl) rfl dX8_rows_57 rfl ?_
              refine r_istoreV [(5, .int r10), (0, .ref (xad X 0)), (1, .int a1), (2, .long a2), (4, .int a4)] dX8_rows_60 rfl (show 5 < 6 by decide) rfl ?_
              refine r_iload 4 dX8_rows_62 rfl rfl ?_
              refine r_iconst dX8_rows_64 rfl ki_m1 ?_
              refine r_icmp_ne dX8_rows_65 rfl rfl h (fun c h => ?_) (fun c h => ?_)
              · refine r_iload 0 dX8_rows_71 rfl rfl ?_
                refine r_if_ne dX8_rows_73 rfl rfl h (fun c h => ?_) (fun c h => ?_)
                · refine r_aload_n 1 dX8_rows_81 rfl rfl rfl ?_
                  refine r_getR fg_RX8_46 rfl rfl dX8_rows_82 rfl ?_
                  refine r_iload 4 dX8_rows_85 rfl rfl ?_
                  obtain ⟨r12, σ11, hc, h⟩ := bi_of h
                  refine r_callV [.int a4] [] [.int r12]  (coX2_pushAt σ9 a4 r12 σ11 hc) mv_RX8_188 (by decide) rfl rfl rfl rfl rfl (Nat.le_of_ble_eq_true rfl) rfl dX8_rows_87 rfl ?_
                  exact r_iret rfl dX8_rows_90 h hE
                · refine r_bipush dX8_rows_76 rfl kb_m9 ?_
                  refine r_goto dX8_rows_78 rfl ?_
                  exact r_iret rfl dX8_rows_90 h hE
              · refine r_iload 0 dX8_rows_68 rfl rfl ?_
                exact r_iret rfl dX8_rows_70 h hE
            · refine r_iconst dX8_rows_45 rfl ki_m1 ?_
              exact r_iret rfl dX8_rows_46 h hE
        · refine r_bipush dX8_rows_30 rfl kb_m2 ?_
          exact r_iret rfl dX8_rows_32 h hE
theorem coX8_rows (σ : Mem) (a1 : Int32) (a2 : Int64) (a4 : Int32) (r : Int32) (σ2 : Mem) (h : FX8_rows σ a1 a2 a4 = some (r, σ2)) : Con SX 20 yX8_rows cX8_rows 6 (some .int) (fun ad => [.ref (ad 0), .int a1, .long a2, .int a4]) σ (fun _ => some (.int r)) σ2 :=
  con_of (by decide +kernel) (fun _ => Nat.le_of_ble_eq_true rfl) (fun X hE => eX8_rows (out := (r, σ2)) hE σ a1 a2 a4 h)
-- IceYard$SandPlan bringsHome
abbrev mX3_bringsHome (dd : Nat) : MD := (cX3_bringsHome, RX3, 8, (some .boolean), dd + 1)
noncomputable def FX3_bringsHome_75 (rc : Mem → Int64 → Int32 → Int32 → Int32 → Option (Int32 × Mem)) (rl11 : Mem → Int64 → Int32 → Int32 → Int32 → Int32 → Option (Int32 × Mem)) (rl26 : Mem → Int64 → Int32 → Int32 → Int32 → Int32 → Int32 → Option (Int32 × Mem)) (σ : Mem) (x1 : Int64) (x3 : Int32) (x4 : Int32) (x5 : Int32) (x6 : Int32) (x7 : Int32) : Option (Int32 × Mem) :=
  if x5 ≤ (1 : Int32) then
  (nm (x7 + (1 : Int32)) fun x_9 =>
  rl26 σ x1 x3 x4 x5 x6 x_9)
  else
  (bi (rc σ (σ.2 2 6) x3 x4 (x5 - (1 : Int32))) fun r11 σ10 =>
  if r11 = 0 then
  (nm (x7 + (1 : Int32)) fun x_12 =>
  rl26 σ10 x1 x3 x4 x5 x6 x_12)
  else
  (rz (1 : Int32) σ10))
set_option maxHeartbeats 4000000 in
set_option maxRecDepth 100000 in
theorem jX3_bringsHome_75 {X : CX} {out : Int32 × Mem} (rc : Mem → Int64 → Int32 → Int32 → Int32 → Option (Int32 × Mem)) {dd : Nat} (hdd : 4 ≤ dd) (hrc : ∀ (σ : Mem) (a1 : Int64) (a3 : Int32) (a4 : Int32) (a5 : Int32) (r : Int32) (σ2 : Mem), rc σ a1 a3 a4 a5 = some (r, σ2) → Con SX dd yX3_bringsHome cX3_bringsHome 8 (some .boolean) (fun ad => [.ref (ad 6), .long a1, .int a3, .int a4, .int a5]) σ (fun _ => some (.int r)) σ2) (hE : Ends X SX (some (.int out.1)) out.2) (rl11 : Mem → Int64 → Int32 → Int32 → Int32 → Int32 → Option (Int32 × Mem)) (hr11 : ∀ (σ : Mem) (x1 : Int64) (x3 : Int32) (x4 : Int32) (x5 : Int32) (x6 : Int32), rl11 σ x1 x3 x4 x5 x6 = some out → J X SX (mX3_bringsHome dd) σ 11 [(0, .ref (xad X 6)), (1, .long x1), (3, .int x3), (4, .int x4), (5, .int x5), (6, .int x6)] []) (rl26 : Mem → Int64 → Int32 → Int32 → Int32 → Int32 → Int32 → Option (Int32 × Mem)) (hr26 : ∀ (σ : Mem) (x1 : Int64) (x3 : Int32) (x4 : Int32) (x5 : Int32) (x6 : Int32) (x7 : Int32), rl26 σ x1 x3 x4 x5 x6 x7 = some out → J X SX (mX3_bringsHome dd) σ 26 [(0, .ref (xad X 6)), (1, .long x1), (3, .int x3), (4, .int x4), (5, .int x5), (6, .int x6), (7, .int x7)] []) (σ : Mem) (x1 : Int64) (x3 : Int32) (x4 : Int32) (x5 : Int32) (x6 : Int32) (x7 : Int32) (h : FX3_bringsHome_75 rc rl11 rl26 σ x1 x3 x4 x5 x6 x7 = some out) : J X SX (mX3_bringsHome dd) σ 75 [(0, .ref (xad X 6)), (1, .long x1), (3, .int x3), (4, .int x4), (5, .int x5), (6, .int x6), (7, .int x7)] [] := by
  refine r_iload 4 dX3_bringsHome_75 rfl rfl ?_
  refine r_iconst dX3_bringsHome_77 rfl ki_1 ?_
  refine r_icmp_le dX3_bringsHome_78 rfl rfl h (fun c h => ?_) (fun c h => ?_)
  · refine r_iinc 6 (fun x_9 => [(7, .int x_9), (0, .ref (xad X 6)), (1, .long x1), (3, .int x3), (4, .int x4), (5, .int x5), (6, .int x6)]) dX3_bringsHome_104 rfl rfl ki_1 (show 7 < 8 by decide) (fun _ => rfl) h (fun x_9 h => ?_)
    refine r_goto dX3_bringsHome_107 rfl ?_
    refine r_sub [1, 2, 3, 4, 5, 6, 0] rfl ?_
    exact hr26 σ x1 x3 x4 x5 x6 x_9 h
  · refine r_aload_n 0 dX3_bringsHome_81 rfl rfl rfl ?_
    refine r_aload_n 0 dX3_bringsHome_82 rfl rfl rfl ?_
    refine r_getR fg_RX3_15 rfl rfl dX3_bringsHome_83 rfl ?_
    refine r_getL fg_RX3_69 rfl rfl dX3_bringsHome_86 rfl ?_
    refine r_iload_n 2 dX3_bringsHome_89 rfl rfl rfl ?_
    refine r_iload 3 dX3_bringsHome_90 rfl rfl ?_
    refine r_iload 4 dX3_bringsHome_92 rfl rfl ?_
    refine r_iconst dX3_bringsHome_94 rfl ki_1 ?_
    refine r_isub dX3_bringsHome_95 rfl ?_
    obtain ⟨r11, σ10, hc, h⟩ := bi_of h
    refine r_callV [.long (σ.2 2 6), .int x3, .int x4, .int (x5 - (1 : Int32))] [] [.int r11]  (hrc σ (σ.2 2 6) x3 x4 (x5 - (1 : Int32)) r11 σ10 hc) mv_RX3_23 (Nat.lt_succ_self dd) rfl rfl rfl rfl rfl (Nat.le_of_ble_eq_true rfl) rfl dX3_bringsHome_96 rfl ?_
    refine r_if_eq dX3_bringsHome_99 rfl rfl h (fun c h => ?_) (fun c h => ?_)
    · refine r_iinc 6 (fun x_12 => [(7, .int x_12), (0, .ref (xad X 6)), (1, .long x1), (3, .int x3), (4, .int x4), (5, .int x5), (6, .int x6)]) dX3_bringsHome_104 rfl rfl ki_1 (show 7 < 8 by decide) (fun _ => rfl) h (fun x_12 h => ?_)
      refine r_goto dX3_bringsHome_107 rfl ?_
      refine r_sub [1, 2, 3, 4, 5, 6, 0] rfl ?_
      exact hr26 σ10 x1 x3 x4 x5 x6 x_12 h
    · refine r_iconst dX3_bringsHome_102 rfl ki_1 ?_
      exact r_zret rfl dX3_bringsHome_103 h hE
noncomputable def BX3_bringsHome_26 (rc : Mem → Int64 → Int32 → Int32 → Int32 → Option (Int32 × Mem)) (rl11 : Mem → Int64 → Int32 → Int32 → Int32 → Int32 → Option (Int32 × Mem)) (rl26 : Mem → Int64 → Int32 → Int32 → Int32 → Int32 → Int32 → Option (Int32 × Mem)) (σ : Mem) (x1 : Int64) (x3 : Int32) (x4 : Int32) (x5 : Int32) (x6 : Int32) (x7 : Int32) : Option (Int32 × Mem) :=
  if (4 : Int32) ≤ x7 then
  (nm (x6 + (1 : Int32)) fun x_13 =>
  rl11 σ x1 x3 x4 x5 x_13)
  else
  (bi (FX6_goes σ x1 x6 x7) fun r15 σ14 =>
  if r15 = 0 then
  (nm (x7 + (1 : Int32)) fun x_16 =>
  rl26 σ14 x1 x3 x4 x5 x6 x_16)
  else
  (if (σ14.1 2 8) = x3 then
  (if (σ14.1 2 9) = x4 then
  (rz (1 : Int32) σ14)
  else
  (FX3_bringsHome_75 rc rl11 rl26 σ14 x1 x3 x4 x5 x6 x7))
  else
  (FX3_bringsHome_75 rc rl11 rl26 σ14 x1 x3 x4 x5 x6 x7)))
set_option maxHeartbeats 4000000 in
set_option maxRecDepth 100000 in
theorem jX3_bringsHome_26 {X : CX} {out : Int32 × Mem} (rc : Mem → Int64 → Int32 → Int32 → Int32 → Option (Int32 × Mem)) {dd : Nat} (hdd : 4 ≤ dd) (hrc : ∀ (σ : Mem) (a1 : Int64) (a3 : Int32) (a4 : Int32) (a5 : Int32) (r : Int32) (σ2 : Mem), rc σ a1 a3 a4 a5 = some (r, σ2) → Con SX dd yX3_bringsHome cX3_bringsHome 8 (some .boolean) (fun ad => [.ref (ad 6), .long a1, .int a3, .int a4, .int a5]) σ (fun _ => some (.int r)) σ2) (hE : Ends X SX (some (.int out.1)) out.2) (rl11 : Mem → Int64 → Int32 → Int32 → Int32 → Int32 → Option (Int32 × Mem)) (hr11 : ∀ (σ : Mem) (x1 : Int64) (x3 : Int32) (x4 : Int32) (x5 : Int32) (x6 : Int32), rl11 σ x1 x3 x4 x5 x6 = some out → J X SX (mX3_bringsHome dd) σ 11 [(0, .ref (xad X 6)), (1, .long x1), (3, .int x3), (4, .int x4), (5, .int x5), (6, .int x6)] []) (rl26 : Mem → Int64 → Int32 → Int32 → Int32 → Int32 → Int32 → Option (Int32 × Mem)) (hr26 : ∀ (σ : Mem) (x1 : Int64) (x3 : Int32) (x4 : Int32) (x5 : Int32) (x6 : Int32) (x7 : Int32), rl26 σ x1 x3 x4 x5 x6 x7 = some out → J X SX (mX3_bringsHome dd) σ 26 [(0, .ref (xad X 6)), (1, .long x1), (3, .int x3), (4, .int x4), (5, .int x5), (6, .int x6), (7, .int x7)] []) (σ : Mem) (x1 : Int64) (x3 : Int32) (x4 : Int32) (x5 : Int32) (x6 : Int32) (x7 : Int32) (h : BX3_bringsHome_26 rc rl11 rl26 σ x1 x3 x4 x5 x6 x7 = some out) : J X SX (mX3_bringsHome dd) σ 26 [(0, .ref (xad X 6)), (1, .long x1), (3, .int x3), (4, .int x4), (5, .int x5), (6, .int x6), (7, .int x7)] [] := by
  refine r_iload 6 dX3_bringsHome_26 rfl rfl ?_
  refine r_iconst dX3_bringsHome_28 rfl ki_4 ?_
  refine r_icmp_ge dX3_bringsHome_29 rfl rfl h (fun c h => ?_) (fun c h => ?_)
  · refine r_iinc 5 (fun x_13 => [(6, .int x_13), (0, .ref (xad X 6)), (1, .long x1), (3, .int x3), (4, .int x4), (5, .int x5), (7, .int x7)]) dX3_bringsHome_110 rfl rfl ki_1 (show 6 < 8 by decide) (fun _ => rfl) h (fun x_13 h => ?_)
    refine r_goto dX3_bringsHome_113 rfl ?_
    refine r_sub [1, 2, 3, 4, 5, 0] rfl ?_
    exact hr11 σ x1 x3 x4 x5 x_13 h
  · refine r_aload_n 0 dX3_bringsHome_32 rfl rfl rfl ?_
    refine r_getR fg_RX3_15 rfl rfl dX3_bringsHome_33 rfl ?_
    refine r_lload_n 1 dX3_bringsHome_36 rfl rfl rfl ?_
    refine r_iload 5 dX3_bringsHome_37 rfl rfl ?_
    refine r_iload 6 dX3_bringsHome_39 rfl rfl ?_
    obtain ⟨r15, σ14, hc, h⟩ := bi_of h
    refine r_callV [.long x1, .int x6, .int x7] [] [.int r15]  (coX6_goes σ x1 x6 x7 r15 σ14 hc) mv_RX3_59 (Nat.lt_succ_of_le (Nat.le_trans (by decide) hdd)) rfl rfl rfl rfl rfl (Nat.le_of_ble_eq_true rfl) rfl dX3_bringsHome_41 rfl ?_
    refine r_if_ne dX3_bringsHome_44 rfl rfl h (fun c h => ?_) (fun c h => ?_)
    · refine r_aload_n 0 dX3_bringsHome_50 rfl rfl rfl ?_
      refine r_getR fg_RX3_15 rfl rfl dX3_bringsHome_51 rfl ?_
      refine r_getI fg_RX3_63 rfl rfl dX3_bringsHome_54 rfl ?_
      refine r_iload_n 2 dX3_bringsHome_57 rfl rfl rfl ?_
      refine r_icmp_ne dX3_bringsHome_58 rfl rfl h (fun c h => ?_) (fun c h => ?_)
      · exact jX3_bringsHome_75 rc hdd hrc hE rl11 hr11 rl26 hr26 σ14 x1 x3 x4 x5 x6 x7 h
      · refine r_aload_n 0 dX3_bringsHome_61 rfl rfl rfl ?_
        refine r_getR fg_RX3_15 rfl rfl dX3_bringsHome_62 rfl ?_
        refine r_getI fg_RX3_66 rfl rfl dX3_bringsHome_65 rfl ?_
        refine r_iload 3 dX3_bringsHome_68 rfl rfl ?_
        refine r_icmp_ne dX3_bringsHome_70 rfl rfl h (fun c h => ?_) (fun c h => ?_)
        · exact jX3_bringsHome_75 rc hdd hrc hE rl11 hr11 rl26 hr26 σ14 x1 x3 x4 x5 x6 x7 h
        · refine r_iconst dX3_bringsHome_73 rfl ki_1 ?_
          exact r_zret rfl dX3_bringsHome_74 h hE
    · refine r_goto dX3_bringsHome_47 rfl ?_
      refine r_iinc 6 (fun x_16 => [(7, .int x_16), (0, .ref (xad X 6)), (1, .long x1), (3, .int x3), (4, .int x4), (5, .int x5), (6, .int x6)]) dX3_bringsHome_104 rfl rfl ki_1 (show 7 < 8 by decide) (fun _ => rfl) h (fun x_16 h => ?_)
      refine r_goto dX3_bringsHome_107 rfl ?_
      refine r_sub [1, 2, 3, 4, 5, 6, 0] rfl ?_
      exact hr26 σ14 x1 x3 x4 x5 x6 x_16 h
noncomputable def FX3_bringsHome_26 (rc : Mem → Int64 → Int32 → Int32 → Int32 → Option (Int32 × Mem)) (rl11 : Mem → Int64 → Int32 → Int32 → Int32 → Int32 → Option (Int32 × Mem)) (n : Nat) : Mem → Int64 → Int32 → Int32 → Int32 → Int32 → Int32 → Option (Int32 × Mem) :=
  Nat.rec (fun _ _ _ _ _ _ _ => none) (fun _ ih => BX3_bringsHome_26 rc rl11 ih) n
theorem lX3_bringsHome_26 {X : CX} {out : Int32 × Mem} (rc : Mem → Int64 → Int32 → Int32 → Int32 → Option (Int32 × Mem)) {dd : Nat} (hdd : 4 ≤ dd) (hrc : ∀ (σ : Mem) (a1 : Int64) (a3 : Int32) (a4 : Int32) (a5 : Int32) (r : Int32) (σ2 : Mem), rc σ a1 a3 a4 a5 = some (r, σ2) → Con SX dd yX3_bringsHome cX3_bringsHome 8 (some .boolean) (fun ad => [.ref (ad 6), .long a1, .int a3, .int a4, .int a5]) σ (fun _ => some (.int r)) σ2) (hE : Ends X SX (some (.int out.1)) out.2) (rl11 : Mem → Int64 → Int32 → Int32 → Int32 → Int32 → Option (Int32 × Mem)) (hr11 : ∀ (σ : Mem) (x1 : Int64) (x3 : Int32) (x4 : Int32) (x5 : Int32) (x6 : Int32), rl11 σ x1 x3 x4 x5 x6 = some out → J X SX (mX3_bringsHome dd) σ 11 [(0, .ref (xad X 6)), (1, .long x1), (3, .int x3), (4, .int x4), (5, .int x5), (6, .int x6)] []) : ∀ (n : Nat) (σ : Mem) (x1 : Int64) (x3 : Int32) (x4 : Int32) (x5 : Int32) (x6 : Int32) (x7 : Int32), FX3_bringsHome_26 rc rl11 n σ x1 x3 x4 x5 x6 x7 = some out → J X SX (mX3_bringsHome dd) σ 26 [(0, .ref (xad X 6)), (1, .long x1), (3, .int x3), (4, .int x4), (5, .int x5), (6, .int x6), (7, .int x7)] [] := by
  intro n
  induction n with
  | zero => intro σ x1 x3 x4 x5 x6 x7 h; exact nn h
  | succ n ih => intro σ x1 x3 x4 x5 x6 x7 h; exact jX3_bringsHome_26 rc hdd hrc hE rl11 hr11 (FX3_bringsHome_26 rc rl11 n) ih σ x1 x3 x4 x5 x6 x7 h
noncomputable def BX3_bringsHome_11 (rc : Mem → Int64 → Int32 → Int32 → Int32 → Option (Int32 × Mem)) (rl11 : Mem → Int64 → Int32 → Int32 → Int32 → Int32 → Option (Int32 × Mem)) (σ : Mem) (x1 : Int64) (x3 : Int32) (x4 : Int32) (x5 : Int32) (x6 : Int32) : Option (Int32 × Mem) :=
  if (σ.1 1 6) ≤ x6 then
  (rz (0 : Int32) σ)
  else
  (FX3_bringsHome_26 rc rl11 FU σ x1 x3 x4 x5 x6 (0 : Int32))
set_option maxHeartbeats 4000000 in
set_option maxRecDepth 100000 in
theorem jX3_bringsHome_11 {X : CX} {out : Int32 × Mem} (rc : Mem → Int64 → Int32 → Int32 → Int32 → Option (Int32 × Mem)) {dd : Nat} (hdd : 4 ≤ dd) (hrc : ∀ (σ : Mem) (a1 : Int64) (a3 : Int32) (a4 : Int32) (a5 : Int32) (r : Int32) (σ2 : Mem), rc σ a1 a3 a4 a5 = some (r, σ2) → Con SX dd yX3_bringsHome cX3_bringsHome 8 (some .boolean) (fun ad => [.ref (ad 6), .long a1, .int a3, .int a4, .int a5]) σ (fun _ => some (.int r)) σ2) (hE : Ends X SX (some (.int out.1)) out.2) (rl11 : Mem → Int64 → Int32 → Int32 → Int32 → Int32 → Option (Int32 × Mem)) (hr11 : ∀ (σ : Mem) (x1 : Int64) (x3 : Int32) (x4 : Int32) (x5 : Int32) (x6 : Int32), rl11 σ x1 x3 x4 x5 x6 = some out → J X SX (mX3_bringsHome dd) σ 11 [(0, .ref (xad X 6)), (1, .long x1), (3, .int x3), (4, .int x4), (5, .int x5), (6, .int x6)] []) (σ : Mem) (x1 : Int64) (x3 : Int32) (x4 : Int32) (x5 : Int32) (x6 : Int32) (h : BX3_bringsHome_11 rc rl11 σ x1 x3 x4 x5 x6 = some out) : J X SX (mX3_bringsHome dd) σ 11 [(0, .ref (xad X 6)), (1, .long x1), (3, .int x3), (4, .int x4), (5, .int x5), (6, .int x6)] [] := by
  refine r_iload 5 dX3_bringsHome_11 rfl rfl ?_
  refine r_aload_n 0 dX3_bringsHome_13 rfl rfl rfl ?_
  refine r_getR fg_RX3_9 rfl rfl dX3_bringsHome_14 rfl ?_
  refine r_getI fg_RX3_54 rfl rfl dX3_bringsHome_17 rfl ?_
  refine r_icmp_ge dX3_bringsHome_20 rfl rfl h (fun c h => ?_) (fun c h => ?_)
  · refine r_iconst dX3_bringsHome_116 rfl ki_0 ?_
    exact r_zret rfl dX3_bringsHome_117 h hE
  · refine r_iconst dX3_bringsHome_23 rfl ki_0 ?_
    refine r_istoreV [(7, .int (0 : Int32)), (0, .ref (xad X 6)), (1, .long x1), (3, .int x3), (4, .int x4), (5, .int x5), (6, .int x6)] dX3_bringsHome_24 rfl (show 7 < 8 by decide) rfl ?_
    refine r_sub [1, 2, 3, 4, 5, 6, 0] rfl ?_
    exact lX3_bringsHome_26 rc hdd hrc hE rl11 hr11 FU σ x1 x3 x4 x5 x6 (0 : Int32) h
noncomputable def FX3_bringsHome_11 (rc : Mem → Int64 → Int32 → Int32 → Int32 → Option (Int32 × Mem)) (n : Nat) : Mem → Int64 → Int32 → Int32 → Int32 → Int32 → Option (Int32 × Mem) :=
  Nat.rec (fun _ _ _ _ _ _ => none) (fun _ ih => BX3_bringsHome_11 rc ih) n
theorem lX3_bringsHome_11 {X : CX} {out : Int32 × Mem} (rc : Mem → Int64 → Int32 → Int32 → Int32 → Option (Int32 × Mem)) {dd : Nat} (hdd : 4 ≤ dd) (hrc : ∀ (σ : Mem) (a1 : Int64) (a3 : Int32) (a4 : Int32) (a5 : Int32) (r : Int32) (σ2 : Mem), rc σ a1 a3 a4 a5 = some (r, σ2) → Con SX dd yX3_bringsHome cX3_bringsHome 8 (some .boolean) (fun ad => [.ref (ad 6), .long a1, .int a3, .int a4, .int a5]) σ (fun _ => some (.int r)) σ2) (hE : Ends X SX (some (.int out.1)) out.2) : ∀ (n : Nat) (σ : Mem) (x1 : Int64) (x3 : Int32) (x4 : Int32) (x5 : Int32) (x6 : Int32), FX3_bringsHome_11 rc n σ x1 x3 x4 x5 x6 = some out → J X SX (mX3_bringsHome dd) σ 11 [(0, .ref (xad X 6)), (1, .long x1), (3, .int x3), (4, .int x4), (5, .int x5), (6, .int x6)] [] := by
  intro n
  induction n with
  | zero => intro σ x1 x3 x4 x5 x6 h; exact nn h
  | succ n ih => intro σ x1 x3 x4 x5 x6 h; exact jX3_bringsHome_11 rc hdd hrc hE (FX3_bringsHome_11 rc n) ih σ x1 x3 x4 x5 x6 h
noncomputable def FX3_bringsHome (rc : Mem → Int64 → Int32 → Int32 → Int32 → Option (Int32 × Mem)) (σ : Mem) (a1 : Int64) (a3 : Int32) (a4 : Int32) (a5 : Int32) : Option (Int32 × Mem) :=
  if (1 : Int32) ≤ a5 then
  (FX3_bringsHome_11 rc FU σ a1 a3 a4 a5 (0 : Int32))
  else
  (rz (0 : Int32) σ)
set_option maxHeartbeats 4000000 in
set_option maxRecDepth 100000 in
theorem eX3_bringsHome {X : CX} {out : Int32 × Mem} (rc : Mem → Int64 → Int32 → Int32 → Int32 → Option (Int32 × Mem)) {dd : Nat} (hdd : 4 ≤ dd) (hrc : ∀ (σ : Mem) (a1 : Int64) (a3 : Int32) (a4 : Int32) (a5 : Int32) (r : Int32) (σ2 : Mem), rc σ a1 a3 a4 a5 = some (r, σ2) → Con SX dd yX3_bringsHome cX3_bringsHome 8 (some .boolean) (fun ad => [.ref (ad 6), .long a1, .int a3, .int a4, .int a5]) σ (fun _ => some (.int r)) σ2) (hE : Ends X SX (some (.int out.1)) out.2) (σ : Mem) (a1 : Int64) (a3 : Int32) (a4 : Int32) (a5 : Int32) (h : FX3_bringsHome rc σ a1 a3 a4 a5 = some out) : J X SX (mX3_bringsHome dd) σ 0 [(0, .ref (xad X 6)), (1, .long a1), (3, .int a3), (4, .int a4), (5, .int a5)] [] := by
  refine r_iload 4 dX3_bringsHome_0 rfl rfl ?_
  refine r_iconst dX3_bringsHome_2 rfl ki_1 ?_
  refine r_icmp_ge dX3_bringsHome_3 rfl rfl h (fun c h => ?_) (fun c h => ?_)
  · refine r_iconst dX3_bringsHome_8 rfl ki_0 ?_
    refine r_istoreV [(6, .int (0 : Int32)), (0, .ref (xad X 6)), (1, .long a1), (3, .int a3), (4, .int a4), (5, .int a5)] dX3_bringsHome_9 rfl (show 6 < 8 by decide) rfl ?_
    refine r_sub [1, 2, 3, 4, 5, 0] rfl ?_
    exact lX3_bringsHome_11 rc hdd hrc hE FU σ a1 a3 a4 a5 (0 : Int32) h
  · refine r_iconst dX3_bringsHome_6 rfl ki_0 ?_
    exact r_zret rfl dX3_bringsHome_7 h hE
theorem coX3_bringsHome (rc : Mem → Int64 → Int32 → Int32 → Int32 → Option (Int32 × Mem)) {dd : Nat} (hdd : 4 ≤ dd) (hrc : ∀ (σ : Mem) (a1 : Int64) (a3 : Int32) (a4 : Int32) (a5 : Int32) (r : Int32) (σ2 : Mem), rc σ a1 a3 a4 a5 = some (r, σ2) → Con SX dd yX3_bringsHome cX3_bringsHome 8 (some .boolean) (fun ad => [.ref (ad 6), .long a1, .int a3, .int a4, .int a5]) σ (fun _ => some (.int r)) σ2) (σ : Mem) (a1 : Int64) (a3 : Int32) (a4 : Int32) (a5 : Int32) (r : Int32) (σ2 : Mem) (h : FX3_bringsHome rc σ a1 a3 a4 a5 = some (r, σ2)) : Con SX (dd + 1) yX3_bringsHome cX3_bringsHome 8 (some .boolean) (fun ad => [.ref (ad 6), .long a1, .int a3, .int a4, .int a5]) σ (fun _ => some (.int r)) σ2 :=
  con_of (by decide +kernel) (fun _ => Nat.le_of_ble_eq_true rfl) (fun X hE => eX3_bringsHome rc hdd hrc (out := (r, σ2)) hE σ a1 a3 a4 a5 h)
noncomputable def FRX3_bringsHome (d : Nat) : Mem → Int64 → Int32 → Int32 → Int32 → Option (Int32 × Mem) :=
  Nat.rec (fun _ _ _ _ _ => none) (fun _ ih => FX3_bringsHome ih) d
theorem crX3_bringsHome : ∀ (d : Nat) (σ : Mem) (a1 : Int64) (a3 : Int32) (a4 : Int32) (a5 : Int32) (r : Int32) (σ2 : Mem), FRX3_bringsHome d σ a1 a3 a4 a5 = some (r, σ2) → Con SX (4 + d) yX3_bringsHome cX3_bringsHome 8 (some .boolean) (fun ad => [.ref (ad 6), .long a1, .int a3, .int a4, .int a5]) σ (fun _ => some (.int r)) σ2 := by
  intro d
  induction d with
  | zero => intro σ a1 a3 a4 a5 r σ2 h; exact nn h
  | succ n ih => intro σ a1 a3 a4 a5 r σ2 h; exact coX3_bringsHome (FRX3_bringsHome n) (dd := 4 + n) (Nat.le_add_right _ _) ih σ a1 a3 a4 a5 r σ2 h
noncomputable def FTX3_bringsHome : Mem → Int64 → Int32 → Int32 → Int32 → Option (Int32 × Mem) := FRX3_bringsHome 14
theorem ctX3_bringsHome (σ : Mem) (a1 : Int64) (a3 : Int32) (a4 : Int32) (a5 : Int32) (r : Int32) (σ2 : Mem) (h : FTX3_bringsHome σ a1 a3 a4 a5 = some (r, σ2)) : Con SX 18 yX3_bringsHome cX3_bringsHome 8 (some .boolean) (fun ad => [.ref (ad 6), .long a1, .int a3, .int a4, .int a5]) σ (fun _ => some (.int r)) σ2 := crX3_bringsHome 14 σ a1 a3 a4 a5 r σ2 h
-- IceYard$SandPlan freeIce
abbrev mX3_freeIce : MD := (cX3_freeIce, RX3, 7, (some .long), 2)
noncomputable def BX3_freeIce_11 (rl11 : Mem → Int64 → Int64 → Int32 → Option (Int64 × Mem)) (σ : Mem) (x1 : Int64) (x3 : Int64) (x5 : Int32) : Option (Int64 × Mem) :=
  if (σ.1 1 6) ≤ x5 then
  (some (x3, σ))
  else
  (bi (FX8_placeOf σ x1 x5) fun r8 σ7 =>
  if (36 : Int32) ≤ r8 then
  (nm (x5 + (1 : Int32)) fun x_9 =>
  rl11 σ7 x1 x3 x_9)
  else
  (nm (x3 &&& (((1 : Int64) <<< ((r8).toInt64 &&& 63)) ^^^ (-1 : Int64))) fun x_10 =>
  nm (x5 + (1 : Int32)) fun x_11 =>
  rl11 σ7 x1 x_10 x_11))
set_option maxHeartbeats 4000000 in
set_option maxRecDepth 100000 in
theorem jX3_freeIce_11 {X : CX} {out : Int64 × Mem} (hE : Ends X SX (some (.long out.1)) out.2) (rl11 : Mem → Int64 → Int64 → Int32 → Option (Int64 × Mem)) (hr11 : ∀ (σ : Mem) (x1 : Int64) (x3 : Int64) (x5 : Int32), rl11 σ x1 x3 x5 = some out → J X SX mX3_freeIce σ 11 [(0, .ref (xad X 6)), (1, .long x1), (3, .long x3), (5, .int x5)] []) (σ : Mem) (x1 : Int64) (x3 : Int64) (x5 : Int32) (h : BX3_freeIce_11 rl11 σ x1 x3 x5 = some out) : J X SX mX3_freeIce σ 11 [(0, .ref (xad X 6)), (1, .long x1), (3, .long x3), (5, .int x5)] [] := by
  refine r_iload 3 dX3_freeIce_11 rfl rfl ?_
  refine r_aload_n 0 dX3_freeIce_13 rfl rfl rfl ?_
  refine r_getR fg_RX3_9 rfl rfl dX3_freeIce_14 rfl ?_
  refine r_getI fg_RX3_54 rfl rfl dX3_freeIce_17 rfl ?_
  refine r_icmp_ge dX3_freeIce_20 rfl rfl h (fun c h => ?_) (fun c h => ?_)
  · refine r_lload_n 2 dX3_freeIce_55 rfl rfl rfl ?_
    exact r_lret rfl dX3_freeIce_56 h hE
  · refine r_lload_n 1 dX3_freeIce_23 rfl rfl rfl ?_
    refine r_iload 3 dX3_freeIce_24 rfl rfl ?_
    obtain ⟨r8, σ7, hc, h⟩ := bi_of h
    refine r_callN [] [.int r8]  (coX8_placeOf σ x1 x5 r8 σ7 hc) mn_RX3_19 (by decide) rfl rfl (Nat.le_of_ble_eq_true rfl) rfl dX3_freeIce_26 rfl ?_
    refine r_istoreV [(6, .int r8), (0, .ref (xad X 6)), (1, .long x1), (3, .long x3), (5, .int x5)] dX3_freeIce_29 rfl (show 6 < 7 by decide) rfl ?_
    refine r_iload 0 dX3_freeIce_31 rfl rfl ?_
    refine r_bipush dX3_freeIce_33 rfl kb_36 ?_
    refine r_icmp_ge dX3_freeIce_35 rfl rfl h (fun c h => ?_) (fun c h => ?_)
    · refine r_iinc 4 (fun x_9 => [(5, .int x_9), (6, .int r8), (0, .ref (xad X 6)), (1, .long x1), (3, .long x3)]) dX3_freeIce_49 rfl rfl ki_1 (show 5 < 7 by decide) (fun _ => rfl) h (fun x_9 h => ?_)
      refine r_goto dX3_freeIce_52 rfl ?_
      refine r_sub [2, 3, 4, 0] rfl ?_
      exact hr11 σ7 x1 x3 x_9 h
    · refine r_lload_n 3 dX3_freeIce_38 rfl rfl rfl ?_
      refine r_lconst dX3_freeIce_39 rfl kl_1 ?_
      refine r_iload 0 dX3_freeIce_40 rfl rfl ?_
      refine r_lshl dX3_freeIce_42 rfl ?_
      refine r_ldc2 dX3_freeIce_43 rfl cl_RX3_57 ?_
      refine r_lxor dX3_freeIce_46 rfl ?_
      refine r_land dX3_freeIce_47 rfl ?_
      refine r_lstore_n (fun x_10 => [(3, .long x_10), (6, .int r8), (0, .ref (xad X 6)), (1, .long x1), (5, .int x5)]) dX3_freeIce_48 rfl rfl (show 3 + 1 < 7 by decide) (fun _ => rfl) h (fun x_10 h => ?_)
      refine r_iinc 4 (fun x_11 => [(5, .int x_11), (3, .long x_10), (6, .int r8), (0, .ref (xad X 6)), (1, .long x1)]) dX3_freeIce_49 rfl rfl ki_1 (show 5 < 7 by decide) (fun _ => rfl) h (fun x_11 h => ?_)
      refine r_goto dX3_freeIce_52 rfl ?_
      refine r_sub [3, 4, 1, 0] rfl ?_
      exact hr11 σ7 x1 x_10 x_11 h
noncomputable def FX3_freeIce_11 (n : Nat) : Mem → Int64 → Int64 → Int32 → Option (Int64 × Mem) :=
  Nat.rec (fun _ _ _ _ => none) (fun _ ih => BX3_freeIce_11 ih) n
theorem lX3_freeIce_11 {X : CX} {out : Int64 × Mem} (hE : Ends X SX (some (.long out.1)) out.2) : ∀ (n : Nat) (σ : Mem) (x1 : Int64) (x3 : Int64) (x5 : Int32), FX3_freeIce_11 n σ x1 x3 x5 = some out → J X SX mX3_freeIce σ 11 [(0, .ref (xad X 6)), (1, .long x1), (3, .long x3), (5, .int x5)] [] := by
  intro n
  induction n with
  | zero => intro σ x1 x3 x5 h; exact nn h
  | succ n ih => intro σ x1 x3 x5 h; exact jX3_freeIce_11 hE (FX3_freeIce_11 n) ih σ x1 x3 x5 h
noncomputable def FX3_freeIce (σ : Mem) (a1 : Int64) : Option (Int64 × Mem) :=
  nm (σ.2 1 12) fun x_12 =>
  FX3_freeIce_11 FU σ a1 x_12 (0 : Int32)
set_option maxHeartbeats 4000000 in
set_option maxRecDepth 100000 in
theorem eX3_freeIce {X : CX} {out : Int64 × Mem} (hE : Ends X SX (some (.long out.1)) out.2) (σ : Mem) (a1 : Int64) (h : FX3_freeIce σ a1 = some out) : J X SX mX3_freeIce σ 0 [(0, .ref (xad X 6)), (1, .long a1)] [] := by
  refine r_aload_n 0 dX3_freeIce_0 rfl rfl rfl ?_
  refine r_getR fg_RX3_9 rfl rfl dX3_freeIce_1 rfl ?_
  refine r_getL fg_RX3_51 rfl rfl dX3_freeIce_4 rfl ?_
  refine r_lstore_n (fun x_12 => [(3, .long x_12), (0, .ref (xad X 6)), (1, .long a1)]) dX3_freeIce_7 rfl rfl (show 3 + 1 < 7 by decide) (fun _ => rfl) h (fun x_12 h => ?_)
  refine r_iconst dX3_freeIce_8 rfl ki_0 ?_
  refine r_istoreV [(5, .int (0 : Int32)), (3, .long x_12), (0, .ref (xad X 6)), (1, .long a1)] dX3_freeIce_9 rfl (show 5 < 7 by decide) rfl ?_
  refine r_sub [2, 3, 1, 0] rfl ?_
  exact lX3_freeIce_11 hE FU σ a1 x_12 (0 : Int32) h
theorem coX3_freeIce (σ : Mem) (a1 : Int64) (r : Int64) (σ2 : Mem) (h : FX3_freeIce σ a1 = some (r, σ2)) : Con SX 2 yX3_freeIce cX3_freeIce 7 (some .long) (fun ad => [.ref (ad 6), .long a1]) σ (fun _ => some (.long r)) σ2 :=
  con_of (by decide +kernel) (fun _ => Nat.le_of_ble_eq_true rfl) (fun X hE => eX3_freeIce (out := (r, σ2)) hE σ a1 h)
-- IceYard$SandPlan fewestCells
abbrev mX3_fewestCells : MD := (cX3_fewestCells, RX3, 10, (some .int), 19)
noncomputable def BX3_fewestCells_42 (rl42 : Mem → Int64 → Int32 → Int32 → Int32 → Int64 → Int32 → Int32 → Option (Int32 × Mem)) (σ : Mem) (x1 : Int64) (x3 : Int32) (x4 : Int32) (x5 : Int32) (x6 : Int64) (x8 : Int32) (x9 : Int32) : Option (Int32 × Mem) :=
  bi (FX1_cells σ) fun r22 σ21 =>
  if r22 ≤ x9 then
  (nm (setL σ21 2 5 (0 : Int64)) fun σ23 =>
  some (x8, σ23))
  else
  (if (36 : Int32) ≤ x9 then
  (nm (setL σ21 2 5 (0 : Int64)) fun σ24 =>
  some (x8, σ24))
  else
  (if x8 = (-9 : Int32) then
  (nm (setL σ21 2 5 ((1 : Int64) <<< ((x9).toInt64 &&& 63))) fun σ26 =>
  bi (FX8_has σ26 x6 x9) fun r28 σ27 =>
  if r28 = 0 then
  (nm (x9 + (1 : Int32)) fun x_29 =>
  rl42 σ27 x1 x3 x4 x5 x6 x8 x_29)
  else
  (bi (FTX3_bringsHome σ27 x1 x3 x4 x5) fun r31 σ30 =>
  if r31 = 0 then
  (nm (x9 + (1 : Int32)) fun x_32 =>
  rl42 σ30 x1 x3 x4 x5 x6 x8 x_32)
  else
  (nm (setI σ30 6 2 x9) fun σ33 =>
  nm (x9 + (1 : Int32)) fun x_34 =>
  rl42 σ33 x1 x3 x4 x5 x6 (1 : Int32) x_34)))
  else
  (nm (setL σ21 2 5 (0 : Int64)) fun σ25 =>
  some (x8, σ25))))
set_option maxHeartbeats 4000000 in
set_option maxRecDepth 100000 in
theorem jX3_fewestCells_42 {X : CX} {out : Int32 × Mem} (hE : Ends X SX (some (.int out.1)) out.2) (rl42 : Mem → Int64 → Int32 → Int32 → Int32 → Int64 → Int32 → Int32 → Option (Int32 × Mem)) (hr42 : ∀ (σ : Mem) (x1 : Int64) (x3 : Int32) (x4 : Int32) (x5 : Int32) (x6 : Int64) (x8 : Int32) (x9 : Int32), rl42 σ x1 x3 x4 x5 x6 x8 x9 = some out → J X SX mX3_fewestCells σ 42 [(0, .ref (xad X 6)), (1, .long x1), (3, .int x3), (4, .int x4), (5, .int x5), (6, .long x6), (8, .int x8), (9, .int x9)] []) (σ : Mem) (x1 : Int64) (x3 : Int32) (x4 : Int32) (x5 : Int32) (x6 : Int64) (x8 : Int32) (x9 : Int32) (h : BX3_fewestCells_42 rl42 σ x1 x3 x4 x5 x6 x8 x9 = some out) : J X SX mX3_fewestCells σ 42 [(0, .ref (xad X 6)), (1, .long x1), (3, .int x3), (4, .int x4), (5, .int x5), (6, .long x6), (8, .int x8), (9, .int x9)] [] := by
  refine r_iload 7 dX3_fewestCells_42 rfl rfl ?_
  refine r_aload_n 0 dX3_fewestCells_44 rfl rfl rfl ?_
  refine r_getR fg_RX3_9 rfl rfl dX3_fewestCells_45 rfl ?_
  obtain ⟨r22, σ21, hc, h⟩ := bi_of h
  refine r_callV [] [.int x9] [.int r22, .int x9]  (coX1_cells σ r22 σ21 hc) mv_RX3_31 (by decide) rfl rfl rfl rfl rfl (Nat.le_of_ble_eq_true rfl) rfl dX3_fewestCells_48 rfl ?_
  refine r_icmp_ge dX3_fewestCells_51 rfl rfl h (fun c h => ?_) (fun c h => ?_)
  · refine r_aload_n 0 dX3_fewestCells_117 rfl rfl rfl ?_
    refine r_getR fg_RX3_15 rfl rfl dX3_fewestCells_118 rfl ?_
    refine r_lconst dX3_fewestCells_121 rfl kl_0 ?_
    refine r_putL fp_RX3_37 rfl rfl dX3_fewestCells_122 rfl h (fun σ23 h => ?_)
    refine r_iload 6 dX3_fewestCells_125 rfl rfl ?_
    exact r_iret rfl dX3_fewestCells_127 h hE
  · refine r_iload 7 dX3_fewestCells_54 rfl rfl ?_
    refine r_bipush dX3_fewestCells_56 rfl kb_36 ?_
    refine r_icmp_ge dX3_fewestCells_58 rfl rfl h (fun c h => ?_) (fun c h => ?_)
    · refine r_aload_n 0 dX3_fewestCells_117 rfl rfl rfl ?_
      refine r_getR fg_RX3_15 rfl rfl dX3_fewestCells_118 rfl ?_
      refine r_lconst dX3_fewestCells_121 rfl kl_0 ?_
      refine r_putL fp_RX3_37 rfl rfl dX3_fewestCells_122 rfl h (fun σ24 h => ?_)
      refine r_iload 6 dX3_fewestCells_125 rfl rfl ?_
      exact r_iret rfl dX3_fewestCells_127 h hE
    · refine r_iload 6 dX3_fewestCells_61 rfl rfl ?_
      refine r_bipush dX3_fewestCells_63 rfl kb_m9 ?_
      refine r_icmp_ne dX3_fewestCells_65 rfl rfl h (fun c h => ?_) (fun c h => ?_)
      · refine r_aload_n 0 dX3_fewestCells_117 rfl rfl rfl ?_
        refine r_getR fg_RX3_15 rfl rfl dX3_fewestCells_118 rfl ?_
        refine r_lconst dX3_fewestCells_121 rfl kl_0 ?_
        refine r_putL fp_RX3_37 rfl rfl dX3_fewestCells_122 rfl h (fun σ25 h => ?_)
        refine r_iload 6 dX3_fewestCells_125 rfl rfl ?_
        exact r_iret rfl dX3_fewestCells_127 h hE
      · refine r_aload_n 0 dX3_fewestCells_68 rfl rfl rfl ?_
        refine r_getR fg_RX3_15 rfl rfl dX3_fewestCells_69 rfl ?_
        refine r_lconst dX3_fewestCells_72 rfl kl_1 ?_
        refine r_iload 7 dX3_fewestCells_73 rfl rfl ?_
        refine r_lshl dX3_fewestCells_75 rfl ?_
        refine r_putL fp_RX3_37 rfl rfl dX3_fewestCells_76 rfl h (fun σ26 h => ?_)
        refine r_lload 5 dX3_fewestCells_79 rfl rfl ?_
        refine r_iload 7 dX3_fewestCells_81 rfl rfl ?_
        obtain ⟨r28, σ27, hc, h⟩ := bi_of h
        refine r_callN [] [.int r28]  (coX8_has σ26 x6 x9 r28 σ27 hc) mn_RX3_43 (by decide) rfl rfl (Nat.le_of_ble_eq_true rfl) rfl dX3_fewestCells_83 rfl ?_
        refine r_if_eq dX3_fewestCells_86 rfl rfl h (fun c h => ?_) (fun c h => ?_)
        · refine r_iinc 7 (fun x_29 => [(9, .int x_29), (0, .ref (xad X 6)), (1, .long x1), (3, .int x3), (4, .int x4), (5, .int x5), (6, .long x6), (8, .int x8)]) dX3_fewestCells_111 rfl rfl ki_1 (show 9 < 10 by decide) (fun _ => rfl) h (fun x_29 h => ?_)
          refine r_goto dX3_fewestCells_114 rfl ?_
          refine r_sub [1, 2, 3, 4, 5, 6, 7, 0] rfl ?_
          exact hr42 σ27 x1 x3 x4 x5 x6 x8 x_29 h
        · refine r_aload_n 0 dX3_fewestCells_89 rfl rfl rfl ?_
          refine r_lload_n 1 dX3_fewestCells_90 rfl rfl rfl ?_
          refine r_iload_n 2 dX3_fewestCells_91 rfl rfl rfl ?_
          refine r_iload 3 dX3_fewestCells_92 rfl rfl ?_
          refine r_iload 4 dX3_fewestCells_94 rfl rfl ?_
          obtain ⟨r31, σ30, hc, h⟩ := bi_of h
          refine r_callV [.long x1, .int x3, .int x4, .int x5] [] [.int r31]  (ctX3_bringsHome σ27 x1 x3 x4 x5 r31 σ30 hc) mv_RX3_23 (by decide) rfl rfl rfl rfl rfl (Nat.le_of_ble_eq_true rfl) rfl dX3_fewestCells_96 rfl ?_
          refine r_if_eq dX3_fewestCells_99 rfl rfl h (fun c h => ?_) (fun c h => ?_)
          · refine r_iinc 7 (fun x_32 => [(9, .int x_32), (0, .ref (xad X 6)), (1, .long x1), (3, .int x3), (4, .int x4), (5, .int x5), (6, .long x6), (8, .int x8)]) dX3_fewestCells_111 rfl rfl ki_1 (show 9 < 10 by decide) (fun _ => rfl) h (fun x_32 h => ?_)
            refine r_goto dX3_fewestCells_114 rfl ?_
            refine r_sub [1, 2, 3, 4, 5, 6, 7, 0] rfl ?_
            exact hr42 σ30 x1 x3 x4 x5 x6 x8 x_32 h
          · refine r_aload_n 0 dX3_fewestCells_102 rfl rfl rfl ?_
            refine r_iload 7 dX3_fewestCells_103 rfl rfl ?_
            refine r_putI fp_RX3_47 rfl rfl dX3_fewestCells_105 rfl h (fun σ33 h => ?_)
            refine r_iconst dX3_fewestCells_108 rfl ki_1 ?_
            refine r_istoreV [(8, .int (1 : Int32)), (0, .ref (xad X 6)), (1, .long x1), (3, .int x3), (4, .int x4), (5, .int x5), (6, .long x6), (9, .int x9)] dX3_fewestCells_109 rfl (show 8 < 10 by decide) rfl ?_
            refine r_iinc 7 (fun x_34 => [(9, .int x_34), (8, .int (1 : Int32)), (0, .ref (xad X 6)), (1, .long x1), (3, .int x3), (4, .int x4), (5, .int x5), (6, .long x6)]) dX3_fewestCells_111 rfl rfl ki_1 (show 9 < 10 by decide) (fun _ => rfl) h (fun x_34 h => ?_)
            refine r_goto dX3_fewestCells_114 rfl ?_
            refine r_sub [2, 3, 4, 5, 6, 7, 1, 0] rfl ?_
            exact hr42 σ33 x1 x3 x4 x5 x6 (1 : Int32) x_34 h
noncomputable def FX3_fewestCells_42 (n : Nat) : Mem → Int64 → Int32 → Int32 → Int32 → Int64 → Int32 → Int32 → Option (Int32 × Mem) :=
  Nat.rec (fun _ _ _ _ _ _ _ _ => none) (fun _ ih => BX3_fewestCells_42 ih) n
theorem lX3_fewestCells_42 {X : CX} {out : Int32 × Mem} (hE : Ends X SX (some (.int out.1)) out.2) : ∀ (n : Nat) (σ : Mem) (x1 : Int64) (x3 : Int32) (x4 : Int32) (x5 : Int32) (x6 : Int64) (x8 : Int32) (x9 : Int32), FX3_fewestCells_42 n σ x1 x3 x4 x5 x6 x8 x9 = some out → J X SX mX3_fewestCells σ 42 [(0, .ref (xad X 6)), (1, .long x1), (3, .int x3), (4, .int x4), (5, .int x5), (6, .long x6), (8, .int x8), (9, .int x9)] [] := by
  intro n
  induction n with
  | zero => intro σ x1 x3 x4 x5 x6 x8 x9 h; exact nn h
  | succ n ih => intro σ x1 x3 x4 x5 x6 x8 x9 h; exact jX3_fewestCells_42 hE (FX3_fewestCells_42 n) ih σ x1 x3 x4 x5 x6 x8 x9 h
noncomputable def FX3_fewestCells (σ : Mem) (a1 : Int64) (a3 : Int32) (a4 : Int32) (a5 : Int32) : Option (Int32 × Mem) :=
  bi (FX8_placeOf σ a1 a3) fun r36 σ35 =>
  if r36 < (36 : Int32) then
  (bi (FTX3_bringsHome σ35 a1 a3 a4 a5) fun r38 σ37 =>
  if r38 = 0 then
  (bi (FX3_freeIce σ37 a1) fun r40 σ39 =>
  FX3_fewestCells_42 FU σ39 a1 a3 a4 a5 r40 (-9 : Int32) (0 : Int32))
  else
  (some ((0 : Int32), σ37)))
  else
  (some ((-9 : Int32), σ35))
set_option maxHeartbeats 4000000 in
set_option maxRecDepth 100000 in
theorem eX3_fewestCells {X : CX} {out : Int32 × Mem} (hE : Ends X SX (some (.int out.1)) out.2) (σ : Mem) (a1 : Int64) (a3 : Int32) (a4 : Int32) (a5 : Int32) (h : FX3_fewestCells σ a1 a3 a4 a5 = some out) : J X SX mX3_fewestCells σ 0 [(0, .ref (xad X 6)), (1, .long a1), (3, .int a3), (4, .int a4), (5, .int a5)] [] := by
  refine r_lload_n 1 dX3_fewestCells_0 rfl rfl rfl ?_
  refine r_iload_n 2 dX3_fewestCells_1 rfl rfl rfl ?_
  obtain ⟨r36, σ35, hc, h⟩ := bi_of h
  refine r_callN [] [.int r36]  (coX8_placeOf σ a1 a3 r36 σ35 hc) mn_RX3_19 (by decide) rfl rfl (Nat.le_of_ble_eq_true rfl) rfl dX3_fewestCells_2 rfl ?_
  refine r_bipush dX3_fewestCells_5 rfl kb_36 ?_
  refine r_icmp_lt dX3_fewestCells_7 rfl rfl h (fun c h => ?_) (fun c h => ?_)
  · refine r_aload_n 0 dX3_fewestCells_13 rfl rfl rfl ?_
    refine r_lload_n 1 dX3_fewestCells_14 rfl rfl rfl ?_
    refine r_iload_n 2 dX3_fewestCells_15 rfl rfl rfl ?_
    refine r_iload 3 dX3_fewestCells_16 rfl rfl ?_
    refine r_iload 4 dX3_fewestCells_18 rfl rfl ?_
    obtain ⟨r38, σ37, hc, h⟩ := bi_of h
    refine r_callV [.long a1, .int a3, .int a4, .int a5] [] [.int r38]  (ctX3_bringsHome σ35 a1 a3 a4 a5 r38 σ37 hc) mv_RX3_23 (by decide) rfl rfl rfl rfl rfl (Nat.le_of_ble_eq_true rfl) rfl dX3_fewestCells_20 rfl ?_
    refine r_if_eq dX3_fewestCells_23 rfl rfl h (fun c h => ?_) (fun c h => ?_)
    · refine r_aload_n 0 dX3_fewestCells_28 rfl rfl rfl ?_
      refine r_lload_n 1 dX3_fewestCells_29 rfl rfl rfl ?_
      obtain ⟨r40, σ39, hc, h⟩ := bi_of h
      refine r_callV [.long a1] [] [.long r40]  (coX3_freeIce σ37 a1 r40 σ39 hc) mv_RX3_27 (by decide) rfl rfl rfl rfl rfl (Nat.le_of_ble_eq_true rfl) rfl dX3_fewestCells_30 rfl ?_
      refine r_lstoreV [(6, .long r40), (0, .ref (xad X 6)), (1, .long a1), (3, .int a3), (4, .int a4), (5, .int a5)] dX3_fewestCells_33 rfl (show 6 + 1 < 10 by decide) rfl ?_
      refine r_bipush dX3_fewestCells_35 rfl kb_m9 ?_
      refine r_istoreV [(8, .int (-9 : Int32)), (6, .long r40), (0, .ref (xad X 6)), (1, .long a1), (3, .int a3), (4, .int a4), (5, .int a5)] dX3_fewestCells_37 rfl (show 8 < 10 by decide) rfl ?_
      refine r_iconst dX3_fewestCells_39 rfl ki_0 ?_
      refine r_istoreV [(9, .int (0 : Int32)), (8, .int (-9 : Int32)), (6, .long r40), (0, .ref (xad X 6)), (1, .long a1), (3, .int a3), (4, .int a4), (5, .int a5)] dX3_fewestCells_40 rfl (show 9 < 10 by decide) rfl ?_
      refine r_sub [3, 4, 5, 6, 7, 2, 1, 0] rfl ?_
      exact lX3_fewestCells_42 hE FU σ39 a1 a3 a4 a5 r40 (-9 : Int32) (0 : Int32) h
    · refine r_iconst dX3_fewestCells_26 rfl ki_0 ?_
      exact r_iret rfl dX3_fewestCells_27 h hE
  · refine r_bipush dX3_fewestCells_10 rfl kb_m9 ?_
    exact r_iret rfl dX3_fewestCells_12 h hE
theorem coX3_fewestCells (σ : Mem) (a1 : Int64) (a3 : Int32) (a4 : Int32) (a5 : Int32) (r : Int32) (σ2 : Mem) (h : FX3_fewestCells σ a1 a3 a4 a5 = some (r, σ2)) : Con SX 19 yX3_fewestCells cX3_fewestCells 10 (some .int) (fun ad => [.ref (ad 6), .long a1, .int a3, .int a4, .int a5]) σ (fun _ => some (.int r)) σ2 :=
  con_of (by decide +kernel) (fun _ => Nat.le_of_ble_eq_true rfl) (fun X hE => eX3_fewestCells (out := (r, σ2)) hE σ a1 a3 a4 a5 h)
-- IceYard sand
abbrev mX8_sand : MD := (cX8_sand, RX8, 6, (some .int), 20)
noncomputable def FX8_sand (σ : Mem) (a1 : Int32) (a2 : Int32) (a3 : Int32) (a4 : Int32) : Option (Int32 × Mem) :=
  bi (FX1_hasBlock σ a1) fun r8 σ7 =>
  if r8 = 0 then
  (some ((-1 : Int32), σ7))
  else
  (bi (FX8_isGate σ7 a2) fun r10 σ9 =>
  if r10 = 0 then
  (some ((-1 : Int32), σ9))
  else
  (if a4 < (-1 : Int32) then
  (some ((-1 : Int32), σ9))
  else
  (if a4 ≤ (1 : Int32) then
  (if a3 < (1 : Int32) then
  (some ((-2 : Int32), σ9))
  else
  (if a3 ≤ (2 : Int32) then
  (bi (FX3_fewestCells σ9 (σ9.2 0 9) a1 a2 a3) fun r12 σ11 =>
  if r12 < 0 then
  (some (r12, σ11))
  else
  (if a4 = (-1 : Int32) then
  (some (r12, σ11))
  else
  (if r12 ≤ a4 then
  (some ((-9 : Int32), σ11))
  else
  (some ((σ11.1 6 2), σ11)))))
  else
  (some ((-2 : Int32), σ9))))
  else
  (some ((-1 : Int32), σ9)))))
set_option maxHeartbeats 4000000 in
set_option maxRecDepth 100000 in
theorem eX8_sand {X : CX} {out : Int32 × Mem} (hE : Ends X SX (some (.int out.1)) out.2) (σ : Mem) (a1 : Int32) (a2 : Int32) (a3 : Int32) (a4 : Int32) (h : FX8_sand σ a1 a2 a3 a4 = some out) : J X SX mX8_sand σ 0 [(0, .ref (xad X 0)), (1, .int a1), (2, .int a2), (3, .int a3), (4, .int a4)] [] := by
  refine r_aload_n 0 dX8_sand_0 rfl rfl rfl ?_
  refine r_getR fg_RX8_14 rfl rfl dX8_sand_1 rfl ?_
  refine r_iload_n 1 dX8_sand_4 rfl rfl rfl ?_
  obtain ⟨r8, σ7, hc, h⟩ := bi_of h
  refine r_callV [.int a1] [] [.int r8]  (coX1_hasBlock σ a1 r8 σ7 hc) mv_RX8_144 (by decide) rfl rfl rfl rfl rfl (Nat.le_of_ble_eq_true rfl) rfl dX8_sand_5 rfl ?_
  refine r_if_eq dX8_sand_8 rfl rfl h (fun c h => ?_) (fun c h => ?_)
  · refine r_iconst dX8_sand_30 rfl ki_m1 ?_
    exact r_iret rfl dX8_sand_31 h hE
  · refine r_iload_n 2 dX8_sand_11 rfl rfl rfl ?_
    obtain ⟨r10, σ9, hc, h⟩ := bi_of h
    refine r_callS [] [.int r10]  (coX8_isGate σ7 a2 r10 σ9 hc) ms_RX8_169 (by decide) rfl rfl (Nat.le_of_ble_eq_true rfl) rfl dX8_sand_12 rfl ?_
    refine r_if_eq dX8_sand_15 rfl rfl h (fun c h => ?_) (fun c h => ?_)
    · refine r_iconst dX8_sand_30 rfl ki_m1 ?_
      exact r_iret rfl dX8_sand_31 h hE
    · refine r_iload 4 dX8_sand_18 rfl rfl ?_
      refine r_iconst dX8_sand_20 rfl ki_m1 ?_
      refine r_icmp_lt dX8_sand_21 rfl rfl h (fun c h => ?_) (fun c h => ?_)
      · refine r_iconst dX8_sand_30 rfl ki_m1 ?_
        exact r_iret rfl dX8_sand_31 h hE
      · refine r_iload 4 dX8_sand_24 rfl rfl ?_
        refine r_iconst dX8_sand_26 rfl ki_1 ?_
        refine r_icmp_le dX8_sand_27 rfl rfl h (fun c h => ?_) (fun c h => ?_)
        · refine r_iload_n 3 dX8_sand_32 rfl rfl rfl ?_
          refine r_iconst dX8_sand_33 rfl ki_1 ?_
          refine r_icmp_lt dX8_sand_34 rfl rfl h (fun c h => ?_) (fun c h => ?_)
          · refine r_bipush dX8_sand_42 rfl kb_m2 ?_
            exact r_iret rfl dX8_sand_44 h hE
          · refine r_iload_n 3 dX8_sand_37 rfl rfl rfl ?_
            refine r_iconst dX8_sand_38 rfl ki_2 ?_
            refine r_icmp_le dX8_sand_39 rfl rfl h (fun c h => ?_) (fun c h => ?_)
            · refine r_aload_n 0 dX8_sand_45 rfl rfl rfl ?_
              refine r_getR fg_RX8_53 rfl rfl dX8_sand_46 rfl ?_
              refine r_aload_n 0 dX8_sand_49 rfl rfl rfl ?_
              refine r_getL fg_RX8_119 rfl rfl dX8_sand_50 rfl ?_
              refine r_iload_n 1 dX8_sand_53 rfl rfl rfl ?_
              refine r_iload_n 2 dX8_sand_54 rfl rfl rfl ?_
              refine r_iload_n 3 dX8_sand_55 rfl rfl rfl ?_
              obtain ⟨r12, σ11, hc, h⟩ := bi_of h
              refine r_callV [.long (σ9.2 0 9), .int a1, .int a2, .int a3] [] [.int r12]  (coX3_fewestCells σ9 (σ9.2 0 9) a1 a2 a3 r12 σ11 hc) mv_RX8_189 (by decide) rfl rfl rfl rfl rfl (Nat.le_of_ble_eq_true rfl) rfl dX8_sand_56 rfl ?_
              refine r_istoreV [(5, .int r12), (0, .ref (xad X 0)), (1, .int a1), (2, .int a2), (3, .int a3), (4, .int a4)] dX8_sand_59 rfl (show 5 < 6 by decide) rfl ?_
              refine r_iload 0 dX8_sand_61 rfl rfl ?_
              refine r_if_lt dX8_sand_63 rfl rfl h (fun c h => ?_) (fun c h => ?_)
              · refine r_iload 0 dX8_sand_72 rfl rfl ?_
                exact r_iret rfl dX8_sand_74 h hE
              · refine r_iload 5 dX8_sand_66 rfl rfl ?_
                refine r_iconst dX8_sand_68 rfl ki_m1 ?_
                refine r_icmp_ne dX8_sand_69 rfl rfl h (fun c h => ?_) (fun c h => ?_)
                · refine r_iload 5 dX8_sand_75 rfl rfl ?_
                  refine r_iload 0 dX8_sand_77 rfl rfl ?_
                  refine r_icmp_ge dX8_sand_79 rfl rfl h (fun c h => ?_) (fun c h => ?_)
                  · refine r_bipush dX8_sand_92 rfl kb_m9 ?_
                    exact r_iret rfl dX8_sand_94 h hE
                  · refine r_aload_n 1 dX8_sand_82 rfl rfl rfl ?_
                    refine r_getR fg_RX8_53 rfl rfl dX8_sand_83 rfl ?_
                    refine r_getI fg_RX8_193 rfl rfl dX8_sand_86 rfl ?_
                    refine r_goto dX8_sand_89 rfl ?_
                    exact r_iret rfl dX8_sand_94 h hE
                · refine r_iload 0 dX8_sand_72 rfl rfl ?_
                  exact r_iret rfl dX8_sand_74 h hE
            · refine r_bipush dX8_sand_42 rfl kb_m2 ?_
              exact r_iret rfl dX8_sand_44 h hE
        · refine r_iconst dX8_sand_30 rfl ki_m1 ?_
          exact r_iret rfl dX8_sand_31 h hE
theorem coX8_sand (σ : Mem) (a1 : Int32) (a2 : Int32) (a3 : Int32) (a4 : Int32) (r : Int32) (σ2 : Mem) (h : FX8_sand σ a1 a2 a3 a4 = some (r, σ2)) : Con SX 20 yX8_sand cX8_sand 6 (some .int) (fun ad => [.ref (ad 0), .int a1, .int a2, .int a3, .int a4]) σ (fun _ => some (.int r)) σ2 :=
  con_of (by decide +kernel) (fun _ => Nat.le_of_ble_eq_true rfl) (fun X hE => eX8_sand (out := (r, σ2)) hE σ a1 a2 a3 a4 h)
-- IceYard$Sheet renew
abbrev mX5_renew : MD := (cX5_renew, RX5, 3, none, 2)
noncomputable def FX5_renew (o : Nat) (σ : Mem) (a1 : Int32) (a2 : Int32) : Option (Mem) :=
  nm (setI σ o 1 a1) fun σ4 =>
  nm (setI σ4 o 2 a2) fun σ5 =>
  bv (FJ7_fill_53178 (o + 4) 60 σ5 (0 : Int32)) fun σ6 =>
  some σ6
set_option maxHeartbeats 4000000 in
set_option maxRecDepth 100000 in
theorem eX5_renew {X : CX} {out : Mem} (o : Nat) (ho : shOk o) (hE : Ends X SX none out) (σ : Mem) (a1 : Int32) (a2 : Int32) (h : FX5_renew o σ a1 a2 = some out) : J X SX mX5_renew σ 0 [(0, .ref (xad X o)), (1, .int a1), (2, .int a2)] [] := by
  refine r_aload_n 0 dX5_renew_0 rfl rfl rfl ?_
  refine r_iload_n 1 dX5_renew_1 rfl rfl rfl ?_
  refine r_putI fp_RX5_15 (sx_obj ho) rfl dX5_renew_2 rfl h (fun σ4 h => ?_)
  refine r_aload_n 0 dX5_renew_5 rfl rfl rfl ?_
  refine r_iload_n 2 dX5_renew_6 rfl rfl rfl ?_
  refine r_putI fp_RX5_19 (sx_obj ho) rfl dX5_renew_7 rfl h (fun σ5 h => ?_)
  refine r_aload_n 0 dX5_renew_10 rfl rfl rfl ?_
  refine r_getR fg_RX5_11 (sx_obj ho) rfl dX5_renew_11 rfl ?_
  refine r_iconst dX5_renew_14 rfl ki_0 ?_
  obtain ⟨σ6, hc, h⟩ := bv_of h
  refine r_callS [] []  (coJ7_fill_53178 (o + 4) 60 (sx_arr ho) σ5 (0 : Int32) σ6 hc) ms_RX5_22 (by decide) rfl rfl (Nat.le_of_ble_eq_true rfl) rfl dX5_renew_15 rfl ?_
  exact r_vret rfl dX5_renew_18 h hE
theorem coX5_renew (o : Nat) (ho : shOk o) (σ : Mem) (a1 : Int32) (a2 : Int32) (σ2 : Mem) (h : FX5_renew o σ a1 a2 = some σ2) : Con SX 2 yX5_renew cX5_renew 3 none (fun ad => [.ref (ad o), .int a1, .int a2]) σ (fun _ => none) σ2 :=
  con_of (by decide +kernel) (fun _ => Nat.le_of_ble_eq_true rfl) (fun X hE => eX5_renew o ho (out := σ2) hE σ a1 a2 h)
-- IceYard sheet
abbrev mX8_sheet : MD := (cX8_sheet, RX8, 5, (some .int), 3)
noncomputable def FX8_sheet (σ : Mem) (a1 : Int32) (a2 : Int32) (a3 : Int32) : Option (Int32 × Mem) :=
  nm (setI σ 0 12 (0 : Int32)) fun σ10 =>
  bi (FX8_sheetAt σ10 a1) fun v12 σ11 =>
  sh v12 (some ((-1 : Int32), σ11)) fun o_13 =>
  bi (FX8_isLane σ11 a2) fun r15 σ14 =>
  if r15 = 0 then
  (some ((-2 : Int32), σ14))
  else
  (if a3 ≤ (60 : Int32) then
  (if 0 ≤ a3 then
  (bv (FX5_renew o_13 σ14 a2 a3) fun σ16 =>
  some ((1 : Int32), σ16))
  else
  (bi (FX8_faulty σ14 (4 : Int32)) fun r18 σ17 =>
  some (r18, σ17)))
  else
  (some ((-2 : Int32), σ14)))
set_option maxHeartbeats 4000000 in
set_option maxRecDepth 100000 in
theorem eX8_sheet {X : CX} {out : Int32 × Mem} (hE : Ends X SX (some (.int out.1)) out.2) (σ : Mem) (a1 : Int32) (a2 : Int32) (a3 : Int32) (h : FX8_sheet σ a1 a2 a3 = some out) : J X SX mX8_sheet σ 0 [(0, .ref (xad X 0)), (1, .int a1), (2, .int a2), (3, .int a3)] [] := by
  refine r_aload_n 0 dX8_sheet_0 rfl rfl rfl ?_
  refine r_iconst dX8_sheet_1 rfl ki_0 ?_
  refine r_putI fp_RX8_73 rfl rfl dX8_sheet_2 rfl h (fun σ10 h => ?_)
  refine r_aload_n 0 dX8_sheet_5 rfl rfl rfl ?_
  refine r_iload_n 1 dX8_sheet_6 rfl rfl rfl ?_
  obtain ⟨v12, σ11, hc, h⟩ := bi_of h
  rcases sh_of h with ⟨hv, h⟩ | ⟨o_13, hv, ho_13, h⟩
  · rw [hv] at hc
    refine r_callV [.int a1] [] [.null]  (coX8_sheetAt σ10 a1 none σ11 hc) mv_RX8_77 (by decide) rfl rfl rfl rfl rfl (Nat.le_of_ble_eq_true rfl) rfl dX8_sheet_7 rfl ?_
    refine r_astoreN [(4, .null), (0, .ref (xad X 0)), (1, .int a1), (2, .int a2), (3, .int a3)] dX8_sheet_10 rfl (show 4 < 5 by decide) rfl ?_
    refine r_aloadN 0 dX8_sheet_12 rfl rfl ?_
    refine r_ifnonnullN dX8_sheet_14 rfl ?_
    refine r_iconst dX8_sheet_17 rfl ki_m1 ?_
    exact r_iret rfl dX8_sheet_18 h hE
  · rw [hv] at hc
    refine r_callV [.int a1] [] [.ref (xad X o_13)]  (coX8_sheetAt σ10 a1 (some o_13) σ11 hc) mv_RX8_77 (by decide) rfl rfl rfl rfl rfl (Nat.le_of_ble_eq_true rfl) rfl dX8_sheet_7 rfl ?_
    refine r_astore [(4, .ref (xad X o_13)), (0, .ref (xad X 0)), (1, .int a1), (2, .int a2), (3, .int a3)] dX8_sheet_10 rfl (show 4 < 5 by decide) rfl ?_
    refine r_aload 0 dX8_sheet_12 rfl rfl ?_
    refine r_ifnonnull dX8_sheet_14 rfl ?_
    refine r_iload_n 3 dX8_sheet_19 rfl rfl rfl ?_
    obtain ⟨r15, σ14, hc, h⟩ := bi_of h
    refine r_callS [] [.int r15]  (coX8_isLane σ11 a2 r15 σ14 hc) ms_RX8_81 (by decide) rfl rfl (Nat.le_of_ble_eq_true rfl) rfl dX8_sheet_20 rfl ?_
    refine r_if_eq dX8_sheet_23 rfl rfl h (fun c h => ?_) (fun c h => ?_)
    · refine r_bipush dX8_sheet_32 rfl kb_m2 ?_
      exact r_iret rfl dX8_sheet_34 h hE
    · refine r_iload_n 4 dX8_sheet_26 rfl rfl rfl ?_
      refine r_bipush dX8_sheet_27 rfl kb_60 ?_
      refine r_icmp_le dX8_sheet_29 rfl rfl h (fun c h => ?_) (fun c h => ?_)
      · refine r_iload_n 4 dX8_sheet_35 rfl rfl rfl ?_
        refine r_if_ge dX8_sheet_36 rfl rfl h (fun c h => ?_) (fun c h => ?_)
        · refine r_aload 0 dX8_sheet_45 rfl rfl ?_
          refine r_iload_n 3 dX8_sheet_47 rfl rfl rfl ?_
          refine r_iload_n 4 dX8_sheet_48 rfl rfl rfl ?_
          obtain ⟨σ16, hc, h⟩ := bv_of h
          refine r_callV [.int a2, .int a3] [] []  (coX5_renew o_13 ho_13 σ14 a2 a3 σ16 hc) mv_RX8_207 (by decide) (sx_obj ho_13) rfl rfl rfl rfl (Nat.le_of_ble_eq_true rfl) rfl dX8_sheet_49 rfl ?_
          refine r_iconst dX8_sheet_52 rfl ki_1 ?_
          exact r_iret rfl dX8_sheet_53 h hE
        · refine r_aload_n 1 dX8_sheet_39 rfl rfl rfl ?_
          refine r_iconst dX8_sheet_40 rfl ki_4 ?_
          obtain ⟨r18, σ17, hc, h⟩ := bi_of h
          refine r_callV [.int (4 : Int32)] [] [.int r18]  (coX8_faulty σ14 (4 : Int32) r18 σ17 hc) mv_RX8_93 (by decide) rfl rfl rfl rfl rfl (Nat.le_of_ble_eq_true rfl) rfl dX8_sheet_41 rfl ?_
          exact r_iret rfl dX8_sheet_44 h hE
      · refine r_bipush dX8_sheet_32 rfl kb_m2 ?_
        exact r_iret rfl dX8_sheet_34 h hE
theorem coX8_sheet (σ : Mem) (a1 : Int32) (a2 : Int32) (a3 : Int32) (r : Int32) (σ2 : Mem) (h : FX8_sheet σ a1 a2 a3 = some (r, σ2)) : Con SX 3 yX8_sheet cX8_sheet 5 (some .int) (fun ad => [.ref (ad 0), .int a1, .int a2, .int a3]) σ (fun _ => some (.int r)) σ2 :=
  con_of (by decide +kernel) (fun _ => Nat.le_of_ble_eq_true rfl) (fun X hE => eX8_sheet (out := (r, σ2)) hE σ a1 a2 a3 h)
-- IceYard$Ground startOf
abbrev mX1_startOf : MD := (cX1_startOf, RX1, 2, (some .int), 2)
noncomputable def FX1_startOf (σ : Mem) (a1 : Int32) : Option (Int32 × Mem) :=
  bi (FX1_hasBlock σ a1) fun r5 σ4 =>
  if r5 = 0 then
  (some ((0 : Int32), σ4))
  else
  (rd a1 6 fun j6 =>
  some ((σ4.1 19 j6), σ4))
set_option maxHeartbeats 4000000 in
set_option maxRecDepth 100000 in
theorem eX1_startOf {X : CX} {out : Int32 × Mem} (hE : Ends X SX (some (.int out.1)) out.2) (σ : Mem) (a1 : Int32) (h : FX1_startOf σ a1 = some out) : J X SX mX1_startOf σ 0 [(0, .ref (xad X 1)), (1, .int a1)] [] := by
  refine r_aload_n 0 dX1_startOf_0 rfl rfl rfl ?_
  refine r_iload_n 1 dX1_startOf_1 rfl rfl rfl ?_
  obtain ⟨r5, σ4, hc, h⟩ := bi_of h
  refine r_callV [.int a1] [] [.int r5]  (coX1_hasBlock σ a1 r5 σ4 hc) mv_RX1_34 (by decide) rfl rfl rfl rfl rfl (Nat.le_of_ble_eq_true rfl) rfl dX1_startOf_2 rfl ?_
  refine r_if_eq dX1_startOf_5 rfl rfl h (fun c h => ?_) (fun c h => ?_)
  · refine r_iconst dX1_startOf_17 rfl ki_0 ?_
    exact r_iret rfl dX1_startOf_18 h hE
  · refine r_aload_n 0 dX1_startOf_8 rfl rfl rfl ?_
    refine r_getR fg_RX1_15 rfl rfl dX1_startOf_9 rfl ?_
    refine r_iload_n 1 dX1_startOf_12 rfl rfl rfl ?_
    refine r_iald rfl dX1_startOf_13 rfl h (fun j6 h => ?_)
    refine r_goto dX1_startOf_14 rfl ?_
    exact r_iret rfl dX1_startOf_18 h hE
theorem coX1_startOf (σ : Mem) (a1 : Int32) (r : Int32) (σ2 : Mem) (h : FX1_startOf σ a1 = some (r, σ2)) : Con SX 2 yX1_startOf cX1_startOf 2 (some .int) (fun ad => [.ref (ad 1), .int a1]) σ (fun _ => some (.int r)) σ2 :=
  con_of (by decide +kernel) (fun _ => Nat.le_of_ble_eq_true rfl) (fun X hE => eX1_startOf (out := (r, σ2)) hE σ a1 h)
-- IceYard$Ground firstYard
abbrev mX1_firstYard : MD := (cX1_firstYard, RX1, 4, (some .long), 3)
noncomputable def BX1_firstYard_4 (rl4 : Mem → Int64 → Int32 → Option (Int64 × Mem)) (σ : Mem) (x1 : Int64) (x3 : Int32) : Option (Int64 × Mem) :=
  if (σ.1 1 6) ≤ x3 then
  (some (x1, σ))
  else
  (bi (FX1_startOf σ x3) fun r7 σ6 =>
  bi (FX8_withPlace σ6 x1 x3 r7) fun r9 σ8 =>
  nm (x3 + (1 : Int32)) fun x_10 =>
  rl4 σ8 r9 x_10)
set_option maxHeartbeats 4000000 in
set_option maxRecDepth 100000 in
theorem jX1_firstYard_4 {X : CX} {out : Int64 × Mem} (hE : Ends X SX (some (.long out.1)) out.2) (rl4 : Mem → Int64 → Int32 → Option (Int64 × Mem)) (hr4 : ∀ (σ : Mem) (x1 : Int64) (x3 : Int32), rl4 σ x1 x3 = some out → J X SX mX1_firstYard σ 4 [(0, .ref (xad X 1)), (1, .long x1), (3, .int x3)] []) (σ : Mem) (x1 : Int64) (x3 : Int32) (h : BX1_firstYard_4 rl4 σ x1 x3 = some out) : J X SX mX1_firstYard σ 4 [(0, .ref (xad X 1)), (1, .long x1), (3, .int x3)] [] := by
  refine r_iload_n 2 dX1_firstYard_4 rfl rfl rfl ?_
  refine r_aload_n 0 dX1_firstYard_5 rfl rfl rfl ?_
  refine r_getI fg_RX1_31 rfl rfl dX1_firstYard_6 rfl ?_
  refine r_icmp_ge dX1_firstYard_9 rfl rfl h (fun c h => ?_) (fun c h => ?_)
  · refine r_lload_n 1 dX1_firstYard_29 rfl rfl rfl ?_
    exact r_lret rfl dX1_firstYard_30 h hE
  · refine r_lload_n 1 dX1_firstYard_12 rfl rfl rfl ?_
    refine r_iload_n 2 dX1_firstYard_13 rfl rfl rfl ?_
    refine r_aload_n 0 dX1_firstYard_14 rfl rfl rfl ?_
    refine r_iload_n 2 dX1_firstYard_15 rfl rfl rfl ?_
    obtain ⟨r7, σ6, hc, h⟩ := bi_of h
    refine r_callV [.int x3] [.int x3, .long x1] [.int r7, .int x3, .long x1]  (coX1_startOf σ x3 r7 σ6 hc) mv_RX1_94 (by decide) rfl rfl rfl rfl rfl (Nat.le_of_ble_eq_true rfl) rfl dX1_firstYard_16 rfl ?_
    obtain ⟨r9, σ8, hc, h⟩ := bi_of h
    refine r_callN [] [.long r9]  (coX8_withPlace σ6 x1 x3 r7 r9 σ8 hc) mn_RX1_97 (by decide) rfl rfl (Nat.le_of_ble_eq_true rfl) rfl dX1_firstYard_19 rfl ?_
    refine r_lstoreV_n [(1, .long r9), (0, .ref (xad X 1)), (3, .int x3)] dX1_firstYard_22 rfl rfl (show 1 + 1 < 4 by decide) rfl ?_
    refine r_iinc 2 (fun x_10 => [(3, .int x_10), (1, .long r9), (0, .ref (xad X 1))]) dX1_firstYard_23 rfl rfl ki_1 (show 3 < 4 by decide) (fun _ => rfl) h (fun x_10 h => ?_)
    refine r_goto dX1_firstYard_26 rfl ?_
    refine r_sub [2, 1, 0] rfl ?_
    exact hr4 σ8 r9 x_10 h
noncomputable def FX1_firstYard_4 (n : Nat) : Mem → Int64 → Int32 → Option (Int64 × Mem) :=
  Nat.rec (fun _ _ _ => none) (fun _ ih => BX1_firstYard_4 ih) n
theorem lX1_firstYard_4 {X : CX} {out : Int64 × Mem} (hE : Ends X SX (some (.long out.1)) out.2) : ∀ (n : Nat) (σ : Mem) (x1 : Int64) (x3 : Int32), FX1_firstYard_4 n σ x1 x3 = some out → J X SX mX1_firstYard σ 4 [(0, .ref (xad X 1)), (1, .long x1), (3, .int x3)] [] := by
  intro n
  induction n with
  | zero => intro σ x1 x3 h; exact nn h
  | succ n ih => intro σ x1 x3 h; exact jX1_firstYard_4 hE (FX1_firstYard_4 n) ih σ x1 x3 h
noncomputable def FX1_firstYard (σ : Mem) : Option (Int64 × Mem) :=
  FX1_firstYard_4 FU σ (0 : Int64) (0 : Int32)
set_option maxHeartbeats 4000000 in
set_option maxRecDepth 100000 in
theorem eX1_firstYard {X : CX} {out : Int64 × Mem} (hE : Ends X SX (some (.long out.1)) out.2) (σ : Mem) (h : FX1_firstYard σ = some out) : J X SX mX1_firstYard σ 0 [(0, .ref (xad X 1))] [] := by
  refine r_lconst dX1_firstYard_0 rfl kl_0 ?_
  refine r_lstoreV_n [(1, .long (0 : Int64)), (0, .ref (xad X 1))] dX1_firstYard_1 rfl rfl (show 1 + 1 < 4 by decide) rfl ?_
  refine r_iconst dX1_firstYard_2 rfl ki_0 ?_
  refine r_istoreV_n [(3, .int (0 : Int32)), (1, .long (0 : Int64)), (0, .ref (xad X 1))] dX1_firstYard_3 rfl rfl (show 3 < 4 by decide) rfl ?_
  refine r_sub [2, 1, 0] rfl ?_
  exact lX1_firstYard_4 hE FU σ (0 : Int64) (0 : Int32) h
theorem coX1_firstYard (σ : Mem) (r : Int64) (σ2 : Mem) (h : FX1_firstYard σ = some (r, σ2)) : Con SX 3 yX1_firstYard cX1_firstYard 4 (some .long) (fun ad => [.ref (ad 1)]) σ (fun _ => some (.long r)) σ2 :=
  con_of (by decide +kernel) (fun _ => Nat.le_of_ble_eq_true rfl) (fun X hE => eX1_firstYard (out := (r, σ2)) hE σ h)

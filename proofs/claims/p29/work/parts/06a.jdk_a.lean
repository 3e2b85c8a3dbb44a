-- java.util.Arrays fill
abbrev mJ7_fill_53178 : MD := (cJ7_fill_53178, RJ7, 4, none, 1)
noncomputable def BJ7_fill_53178_5 (o n0 : Nat) (rl5 : Mem → Int32 → Int32 → Int32 → Option (Mem)) (σ : Mem) (x1 : Int32) (x2 : Int32) (x3 : Int32) : Option (Mem) :=
  if x3 ≤ x2 then
  (some σ)
  else
  (stI σ o n0 x2 x1 fun σ4 =>
  nm (x2 + (1 : Int32)) fun x_5 =>
  rl5 σ4 x1 x_5 x3)
set_option maxHeartbeats 4000000 in
set_option maxRecDepth 100000 in
theorem jJ7_fill_53178_5 {X : CX} {out : Mem} (o n0 : Nat) (hA : SX[o]? = some (1, n0, [])) (hE : Ends X SX none out) (rl5 : Mem → Int32 → Int32 → Int32 → Option (Mem)) (hr5 : ∀ (σ : Mem) (x1 : Int32) (x2 : Int32) (x3 : Int32), rl5 σ x1 x2 x3 = some out → J X SX mJ7_fill_53178 σ 5 [(0, .ref (xad X o)), (1, .int x1), (2, .int x2), (3, .int x3)] []) (σ : Mem) (x1 : Int32) (x2 : Int32) (x3 : Int32) (h : BJ7_fill_53178_5 o n0 rl5 σ x1 x2 x3 = some out) : J X SX mJ7_fill_53178 σ 5 [(0, .ref (xad X o)), (1, .int x1), (2, .int x2), (3, .int x3)] [] := by
  refine r_iload_n 2 dJ7_fill_53178_5 rfl rfl rfl ?_
  refine r_iload_n 3 dJ7_fill_53178_6 rfl rfl rfl ?_
  refine r_icmp_ge dJ7_fill_53178_7 rfl rfl h (fun c h => ?_) (fun c h => ?_)
  · exact r_vret rfl dJ7_fill_53178_20 h hE
  · refine r_aload_n 0 dJ7_fill_53178_10 rfl rfl rfl ?_
    refine r_iload_n 2 dJ7_fill_53178_11 rfl rfl rfl ?_
    refine r_iload_n 1 dJ7_fill_53178_12 rfl rfl rfl ?_
    refine r_iast hA dJ7_fill_53178_13 rfl h (fun σ4 h => ?_)
    refine r_iinc 2 (fun x_5 => [(2, .int x_5), (0, .ref (xad X o)), (1, .int x1), (3, .int x3)]) dJ7_fill_53178_14 rfl rfl ki_1 (show 2 < 4 by decide) (fun _ => rfl) h (fun x_5 h => ?_)
    refine r_goto dJ7_fill_53178_17 rfl ?_
    refine r_sub [1, 2, 0, 3] rfl ?_
    exact hr5 σ4 x1 x_5 x3 h
noncomputable def FJ7_fill_53178_5 (o n0 : Nat) (n : Nat) : Mem → Int32 → Int32 → Int32 → Option (Mem) :=
  Nat.rec (fun _ _ _ _ => none) (fun _ ih => BJ7_fill_53178_5 o n0 ih) n
theorem lJ7_fill_53178_5 {X : CX} {out : Mem} (o n0 : Nat) (hA : SX[o]? = some (1, n0, [])) (hE : Ends X SX none out) : ∀ (n : Nat) (σ : Mem) (x1 : Int32) (x2 : Int32) (x3 : Int32), FJ7_fill_53178_5 o n0 n σ x1 x2 x3 = some out → J X SX mJ7_fill_53178 σ 5 [(0, .ref (xad X o)), (1, .int x1), (2, .int x2), (3, .int x3)] [] := by
  intro n
  induction n with
  | zero => intro σ x1 x2 x3 h; exact nn h
  | succ n ih => intro σ x1 x2 x3 h; exact jJ7_fill_53178_5 o n0 hA hE (FJ7_fill_53178_5 o n0 n) ih σ x1 x2 x3 h
noncomputable def FJ7_fill_53178 (o n0 : Nat) (σ : Mem) (a1 : Int32) : Option (Mem) :=
  nm (Int32.ofNat n0) fun x_6 =>
  FJ7_fill_53178_5 o n0 FU σ a1 (0 : Int32) x_6
set_option maxHeartbeats 4000000 in
set_option maxRecDepth 100000 in
theorem eJ7_fill_53178 {X : CX} {out : Mem} (o n0 : Nat) (hA : SX[o]? = some (1, n0, [])) (hE : Ends X SX none out) (σ : Mem) (a1 : Int32) (h : FJ7_fill_53178 o n0 σ a1 = some out) : J X SX mJ7_fill_53178 σ 0 [(0, .ref (xad X o)), (1, .int a1)] [] := by
  refine r_iconst dJ7_fill_53178_0 rfl ki_0 ?_
  refine r_istoreV_n [(2, .int (0 : Int32)), (0, .ref (xad X o)), (1, .int a1)] dJ7_fill_53178_1 rfl rfl (show 2 < 4 by decide) rfl ?_
  refine r_aload_n 1 dJ7_fill_53178_2 rfl rfl rfl ?_
  refine r_alen hA (by decide) rfl dJ7_fill_53178_3 rfl ?_
  refine r_istore_n (fun x_6 => [(3, .int x_6), (2, .int (0 : Int32)), (0, .ref (xad X o)), (1, .int a1)]) dJ7_fill_53178_4 rfl rfl (show 3 < 4 by decide) (fun _ => rfl) h (fun x_6 h => ?_)
  refine r_sub [2, 3, 1, 0] rfl ?_
  exact lJ7_fill_53178_5 o n0 hA hE FU σ a1 (0 : Int32) x_6 h
theorem coJ7_fill_53178 (o n0 : Nat) (hA : SX[o]? = some (1, n0, [])) (σ : Mem) (a1 : Int32) (σ2 : Mem) (h : FJ7_fill_53178 o n0 σ a1 = some σ2) : Con SX 1 yJ7_fill_53178 cJ7_fill_53178 4 none (fun ad => [.ref (ad o), .int a1]) σ (fun _ => none) σ2 :=
  con_of (by decide +kernel) (fun _ => Nat.le_of_ble_eq_true rfl) (fun X hE => eJ7_fill_53178 o n0 hA (out := σ2) hE σ a1 h)
-- java.util.Arrays fill
abbrev mJ7_fill_d0a16 : MD := (cJ7_fill_d0a16, RJ7, 5, none, 1)
noncomputable def BJ7_fill_d0a16_6 (o n0 : Nat) (rl6 : Mem → Int64 → Int32 → Int32 → Option (Mem)) (σ : Mem) (x1 : Int64) (x3 : Int32) (x4 : Int32) : Option (Mem) :=
  if x4 ≤ x3 then
  (some σ)
  else
  (stL σ o n0 x3 x1 fun σ4 =>
  nm (x3 + (1 : Int32)) fun x_5 =>
  rl6 σ4 x1 x_5 x4)
set_option maxHeartbeats 4000000 in
set_option maxRecDepth 100000 in
theorem jJ7_fill_d0a16_6 {X : CX} {out : Mem} (o n0 : Nat) (hA : SX[o]? = some (3, n0, [])) (hE : Ends X SX none out) (rl6 : Mem → Int64 → Int32 → Int32 → Option (Mem)) (hr6 : ∀ (σ : Mem) (x1 : Int64) (x3 : Int32) (x4 : Int32), rl6 σ x1 x3 x4 = some out → J X SX mJ7_fill_d0a16 σ 6 [(0, .ref (xad X o)), (1, .long x1), (3, .int x3), (4, .int x4)] []) (σ : Mem) (x1 : Int64) (x3 : Int32) (x4 : Int32) (h : BJ7_fill_d0a16_6 o n0 rl6 σ x1 x3 x4 = some out) : J X SX mJ7_fill_d0a16 σ 6 [(0, .ref (xad X o)), (1, .long x1), (3, .int x3), (4, .int x4)] [] := by
  refine r_iload_n 2 dJ7_fill_d0a16_6 rfl rfl rfl ?_
  refine r_iload 3 dJ7_fill_d0a16_7 rfl rfl ?_
  refine r_icmp_ge dJ7_fill_d0a16_9 rfl rfl h (fun c h => ?_) (fun c h => ?_)
  · exact r_vret rfl dJ7_fill_d0a16_22 h hE
  · refine r_aload_n 0 dJ7_fill_d0a16_12 rfl rfl rfl ?_
    refine r_iload_n 2 dJ7_fill_d0a16_13 rfl rfl rfl ?_
    refine r_lload_n 1 dJ7_fill_d0a16_14 rfl rfl rfl ?_
    refine r_last hA dJ7_fill_d0a16_15 rfl h (fun σ4 h => ?_)
    refine r_iinc 2 (fun x_5 => [(3, .int x_5), (0, .ref (xad X o)), (1, .long x1), (4, .int x4)]) dJ7_fill_d0a16_16 rfl rfl ki_1 (show 3 < 5 by decide) (fun _ => rfl) h (fun x_5 h => ?_)
    refine r_goto dJ7_fill_d0a16_19 rfl ?_
    refine r_sub [1, 2, 0, 3] rfl ?_
    exact hr6 σ4 x1 x_5 x4 h
noncomputable def FJ7_fill_d0a16_6 (o n0 : Nat) (n : Nat) : Mem → Int64 → Int32 → Int32 → Option (Mem) :=
  Nat.rec (fun _ _ _ _ => none) (fun _ ih => BJ7_fill_d0a16_6 o n0 ih) n
theorem lJ7_fill_d0a16_6 {X : CX} {out : Mem} (o n0 : Nat) (hA : SX[o]? = some (3, n0, [])) (hE : Ends X SX none out) : ∀ (n : Nat) (σ : Mem) (x1 : Int64) (x3 : Int32) (x4 : Int32), FJ7_fill_d0a16_6 o n0 n σ x1 x3 x4 = some out → J X SX mJ7_fill_d0a16 σ 6 [(0, .ref (xad X o)), (1, .long x1), (3, .int x3), (4, .int x4)] [] := by
  intro n
  induction n with
  | zero => intro σ x1 x3 x4 h; exact nn h
  | succ n ih => intro σ x1 x3 x4 h; exact jJ7_fill_d0a16_6 o n0 hA hE (FJ7_fill_d0a16_6 o n0 n) ih σ x1 x3 x4 h
noncomputable def FJ7_fill_d0a16 (o n0 : Nat) (σ : Mem) (a1 : Int64) : Option (Mem) :=
  nm (Int32.ofNat n0) fun x_6 =>
  FJ7_fill_d0a16_6 o n0 FU σ a1 (0 : Int32) x_6
set_option maxHeartbeats 4000000 in
set_option maxRecDepth 100000 in
theorem eJ7_fill_d0a16 {X : CX} {out : Mem} (o n0 : Nat) (hA : SX[o]? = some (3, n0, [])) (hE : Ends X SX none out) (σ : Mem) (a1 : Int64) (h : FJ7_fill_d0a16 o n0 σ a1 = some out) : J X SX mJ7_fill_d0a16 σ 0 [(0, .ref (xad X o)), (1, .long a1)] [] := by
  refine r_iconst dJ7_fill_d0a16_0 rfl ki_0 ?_
  refine r_istoreV_n [(3, .int (0 : Int32)), (0, .ref (xad X o)), (1, .long a1)] dJ7_fill_d0a16_1 rfl rfl (show 3 < 5 by decide) rfl ?_
  refine r_aload_n 1 dJ7_fill_d0a16_2 rfl rfl rfl ?_
  refine r_alen hA (by decide) rfl dJ7_fill_d0a16_3 rfl ?_
  refine r_istore (fun x_6 => [(4, .int x_6), (3, .int (0 : Int32)), (0, .ref (xad X o)), (1, .long a1)]) dJ7_fill_d0a16_4 rfl (show 4 < 5 by decide) (fun _ => rfl) h (fun x_6 h => ?_)
  refine r_sub [2, 3, 1, 0] rfl ?_
  exact lJ7_fill_d0a16_6 o n0 hA hE FU σ a1 (0 : Int32) x_6 h
theorem coJ7_fill_d0a16 (o n0 : Nat) (hA : SX[o]? = some (3, n0, [])) (σ : Mem) (a1 : Int64) (σ2 : Mem) (h : FJ7_fill_d0a16 o n0 σ a1 = some σ2) : Con SX 1 yJ7_fill_d0a16 cJ7_fill_d0a16 5 none (fun ad => [.ref (ad o), .long a1]) σ (fun _ => none) σ2 :=
  con_of (by decide +kernel) (fun _ => Nat.le_of_ble_eq_true rfl) (fun X hE => eJ7_fill_d0a16 o n0 hA (out := σ2) hE σ a1 h)

theorem nc_RL_7 : NC RL 7 7 [(3, 0), (3, 0), (3, 0), (3, 0), (3, 0), (3, 0), (3, 0), (3, 0), (3, 0), (1, 0), (0, 0), (0, 0), (0, 0)] := ⟨RX8, TX8, 13, tyX8, rfl, lay_RX8, tyX8_ok, bw1 15 rfl rfl, bw1 16 rfl rfl, bw1 1 rfl rfl, by decide +kernel, rfl, by decide⟩
theorem nc_RL_10 : NC RL 10 8 [(0, 0), (0, 0), (0, 0), (0, 0), (3, 0), (3, 0), (3, 0), (3, 0), (1, 0), (0, 0), (0, 0), (0, 0), (3, 0), (3, 0), (3, 0), (0, 0), (0, 0), (1, 0), (1, 0), (0, 0), (3, 0), (3, 0), (0, 0), (3, 0), (3, 0), (3, 0), (3, 0), (3, 0), (3, 0), (3, 0), (3, 0), (3, 0), (0, 0), (0, 0), (0, 0), (3, 0), (3, 0), (3, 0), (3, 0), (3, 0), (3, 0), (0, 0), (0, 0), (0, 0), (3, 0), (3, 0), (3, 0), (3, 0), (3, 0), (3, 0), (3, 0), (0, 0)] := ⟨RX9, TX9, 52, tyX9, rfl, lay_RX9, tyX9_ok, bw3 211 rfl rfl, bw3 212 rfl rfl, bw1 9 rfl rfl, by decide +kernel, rfl, by decide⟩
theorem mi_RL_9 : MI RL 9 yX8_init cX8_init 1 0 := ⟨Or.inl (bw1 17 rfl rfl), bw1 18 rfl rfl, bw1 1 rfl rfl, bw1 19 rfl rfl, ⟨by decide +kernel, by decide +kernel, by decide +kernel⟩, rfl, by decide⟩
theorem mi_RL_12 : MI RL 12 yX9_init cX9_init 2 0 := ⟨Or.inl (bw3 213 rfl rfl), bw3 214 rfl rfl, bw1 9 rfl rfl, bw3 215 rfl rfl, ⟨by decide +kernel, by decide +kernel, by decide +kernel⟩, rfl, by decide⟩
theorem dfl_V {sl : List (Nat × Nat)} {ad : Nat → Nat} {σ : Mem} {n : Nat} (g6 : sl.all (fun kt => kt.1 != 2) = true) (hz : ∀ j, σ.1 n j = 0 ∧ σ.2 n j = 0) : ∀ j, j < sl.length → dfl sl j = vp_V (sl.mapIdx (slotV ad σ n)) j := by
  intro j hj
  unfold vp_V
  rw [List.getD_eq_getElem?_getD, List.getElem?_mapIdx, List.getElem?_eq_getElem hj]
  show dfl sl j = slotV ad σ n j sl[j]
  unfold dfl
  rw [List.getD_eq_getElem?_getD, List.getElem?_eq_getElem hj]
  have hne := List.all_eq_true.mp g6 sl[j] (List.getElem_mem hj)
  generalize sl[j] = kt at hne ⊢
  obtain ⟨a, b⟩ := kt
  match a with
  | 0 => show Value.int 0 = Value.int (σ.1 n j); rw [(hz j).1]
  | 1 => show Value.long 0 = Value.long (σ.2 n j); rw [(hz j).2]
  | 2 => simp at hne
  | _ + 3 => rfl
theorem tw1 (i : Nat) {w : Cond} (h : tables_1_1[i]? = some w) : w ∈ lw_tbl := List.mem_append_right _ (List.mem_append_left _ (List.mem_of_getElem? h))
theorem tw2 (i : Nat) {w : Cond} (h : tables_1_2[i]? = some w) : w ∈ lw_tbl := List.mem_append_right _ (List.mem_append_right _ (List.mem_append_left _ (List.mem_of_getElem? h)))
theorem tw3 (i : Nat) {w : Cond} (h : tables_1_3[i]? = some w) : w ∈ lw_tbl := List.mem_append_right _ (List.mem_append_right _ (List.mem_append_right _ (List.mem_append_left _ (List.mem_of_getElem? h))))
theorem tw4 (i : Nat) {w : Cond} (h : tables_1_4[i]? = some w) : w ∈ lw_tbl := List.mem_append_right _ (List.mem_append_right _ (List.mem_append_right _ (List.mem_append_right _ (List.mem_append_left _ (List.mem_of_getElem? h)))))
theorem tw5 (i : Nat) {w : Cond} (h : tables_1_5[i]? = some w) : w ∈ lw_tbl := List.mem_append_right _ (List.mem_append_right _ (List.mem_append_right _ (List.mem_append_right _ (List.mem_append_right _ ((List.mem_of_getElem? h))))))
theorem classes_known {b : Nat} {s : State} (hts : ∀ w ∈ lw_tbl, w.before #[Value.ref b] s = true) : ∃ D : va_G, ∀ (k : Nat) (q : vw_C), vwCl[k]? = some q → u_Kn s q.1 q.2.1 q.2.2 (D.1 k) (D.2 k) := by
  have key : ∀ k : Nat, ∃ d : ClassId × (Nat → Nat), ∀ q : vw_C, vwCl[k]? = some q → u_Kn s q.1 q.2.1 q.2.2 d.1 d.2 := fun k => match k with
  | 0 => by
    obtain ⟨c0, i0, h⟩ := u_known (C := RX0) (T := TX0) (N := 3) (n := 3) hts (fun w hw => bw_in w (lay_RX0 w hw)) (hts (.instantiable RX0 3) (bw_in _ (bw1 168 rfl rfl)))
    exact ⟨(c0, i0), fun q hq => by cases hq; exact h⟩
  | 1 => by
    obtain ⟨c0, i0, h⟩ := u_known (C := RX1) (T := TX1) (N := 13) (n := 13) hts (fun w hw => bw_in w (lay_RX1 w hw)) (hts (.instantiable RX1 13) (bw_in _ (bw1 24 rfl rfl)))
    exact ⟨(c0, i0), fun q hq => by cases hq; exact h⟩
  | 2 => by
    obtain ⟨c0, i0, h⟩ := u_known (C := RX2) (T := TX2) (N := 6) (n := 6) hts (fun w hw => bw_in w (lay_RX2 w hw)) (hts (.instantiable RX2 6) (bw_in _ (bw1 185 rfl rfl)))
    exact ⟨(c0, i0), fun q hq => by cases hq; exact h⟩
  | 3 => by
    obtain ⟨c0, i0, h⟩ := u_known (C := RX3) (T := TX3) (N := 3) (n := 3) hts (fun w hw => bw_in w (lay_RX3 w hw)) (hts (.instantiable RX3 3) (bw_in _ (bw1 210 rfl rfl)))
    exact ⟨(c0, i0), fun q hq => by cases hq; exact h⟩
  | 4 => by
    obtain ⟨c0, i0, h⟩ := u_known (C := RX4) (T := TX4) (N := 9) (n := 9) hts (fun w hw => bw_in w (lay_RX4 w hw)) (hts (.instantiable RX4 9) (bw_in _ (bw1 133 rfl rfl)))
    exact ⟨(c0, i0), fun q hq => by cases hq; exact h⟩
  | 5 => by
    obtain ⟨c0, i0, h⟩ := u_known (C := RX5) (T := TX5) (N := 3) (n := 3) hts (fun w hw => bw_in w (lay_RX5 w hw)) (hts (.instantiable RX5 3) (bw_in _ (bw1 228 rfl rfl)))
    exact ⟨(c0, i0), fun q hq => by cases hq; exact h⟩
  | 6 => by
    obtain ⟨c0, i0, h⟩ := u_known (C := RX6) (T := TX6) (N := 10) (n := 10) hts (fun w hw => bw_in w (lay_RX6 w hw)) (hts (.instantiable RX6 10) (bw_in _ (bw1 83 rfl rfl)))
    exact ⟨(c0, i0), fun q hq => by cases hq; exact h⟩
  | 7 => by
    obtain ⟨c0, i0, h⟩ := u_known (C := RX8) (T := TX8) (N := 13) (n := 13) hts (fun w hw => bw_in w (lay_RX8 w hw)) (hts (.instantiable RX8 13) (bw_in _ (bw1 16 rfl rfl)))
    exact ⟨(c0, i0), fun q hq => by cases hq; exact h⟩
  | 8 => by
    obtain ⟨c0, i0, h⟩ := u_known (C := RX9) (T := TX9) (N := 52) (n := 52) hts (fun w hw => bw_in w (lay_RX9 w hw)) (hts (.instantiable RX9 52) (bw_in _ (bw3 212 rfl rfl)))
    exact ⟨(c0, i0), fun q hq => by cases hq; exact h⟩
  | k + 9 => ⟨(Classical.choice ⟨(u_known (C := RX0) (T := TX0) (N := 3) (n := 3) hts (fun w hw => bw_in w (lay_RX0 w hw)) (hts (.instantiable RX0 3) (bw_in _ (bw1 168 rfl rfl)))).choose⟩, fun _ => 0), fun q hq => by simp at hq⟩
  exact ⟨(fun k => (key k).choose.1, fun k => (key k).choose.2), fun k q hq => (key k).choose_spec q hq⟩
theorem arrays_known {b : Nat} {s : State} (hts : ∀ w ∈ lw_tbl, w.before #[Value.ref b] s = true) : ∃ ca : Nat → ClassId, ∀ (k : Nat) (q : ClassId × FieldType), (tyL ca)[k]? = some q → ArrOfT s q.1 q.2 ∧ va_RA s q.1 q.2 := by
  obtain ⟨c0, k0, m0, f0, g0, h0⟩ := Cond.arrayClass_spec (hts (.arrayClass .int) (tw1 81 rfl))
  obtain ⟨c1, k1, m1, f1, g1, h1⟩ := Cond.arrayClass_spec (hts (.arrayClass .boolean) (tw4 134 rfl))
  obtain ⟨c2, k2, m2, f2, g2, h2⟩ := Cond.arrayClass_spec (hts (.arrayClass .long) (tw1 166 rfl))
  obtain ⟨m3, c3, k3, e1, -, g3, h3, e2⟩ := Cond.arrayOver_spec (hts (.arrayOver (.object "IceYard$Sheet")) (tw1 227 rfl))
  refine ⟨fun i => match i with | 0 => c0 | 1 => c1 | 2 => c2 | _ => c3, fun k q hq => ?_⟩
  match k, hq with
  | 0, hq => cases hq; exact ⟨fun n z => ⟨fun k h => (by cases h), k0, g0, m0, h0⟩, f0⟩
  | 1, hq => cases hq; exact ⟨fun n z => ⟨fun k h => (by cases h), k1, g1, m1, h1⟩, f1⟩
  | 2, hq => cases hq; exact ⟨fun n z => ⟨fun k h => (by cases h), k2, g2, m2, h2⟩, f2⟩
  | 3, hq => cases hq; exact ⟨fun n z => ⟨fun k h => (by cases h), k3, g3, m3, h3⟩, ⟨k3, m3, g3, h3, e1, e2⟩⟩
  | k + 4, hq => simp [tyL] at hq
theorem over_known {b : Nat} {s : State} (hts : ∀ w ∈ lw_tbl, w.before #[Value.ref b] s = true) : va_AO "IceYard$Sheet" s := va_AO.of (hts _ (tw1 227 rfl))
theorem nest_in : ∀ q ∈ nestL, Cond.methodLinkNest q.1 q.2.1 q.2.2.1 q.2.2.2 ∈ lw_tbl := by
  unfold nestL
  exact List.forall_mem_cons.mpr ⟨tw1 25 rfl, List.forall_mem_cons.mpr ⟨tw1 229 rfl, List.forall_mem_cons.mpr ⟨tw2 127 rfl, List.forall_mem_cons.mpr ⟨tw2 146 rfl, List.forall_mem_cons.mpr ⟨tw2 200 rfl, List.forall_mem_cons.mpr ⟨tw2 212 rfl, List.forall_mem_cons.mpr ⟨tw2 213 rfl, List.forall_mem_cons.mpr ⟨tw3 35 rfl, List.forall_mem_cons.mpr ⟨tw3 63 rfl, List.forall_mem_cons.mpr ⟨tw3 85 rfl, List.forall_mem_cons.mpr ⟨tw3 102 rfl, List.forall_mem_cons.mpr ⟨tw3 114 rfl, (fun _ h => absurd h List.not_mem_nil)⟩⟩⟩⟩⟩⟩⟩⟩⟩⟩⟩⟩
theorem nest_known {b : Nat} {s : State} (hts : ∀ w ∈ lw_tbl, w.before #[Value.ref b] s = true) : NK s := fun q hq => va_Nw.of rfl (hts _ (nest_in q hq))
set_option maxHeartbeats 8000000 in
set_option maxRecDepth 100000 in
/-- the claim's walk, out of what the two sides keep -/
theorem whole_of {Rel : Mem → Mem → Prop} (hs : Sims Rel) (h0 : Rel σX0 τM0) {p : Program} {e : Env} {s : State} {m : MethodId} {below : List Frame} {meth : Method} {c : Code} (l : Launch) {b L : Nat} {xs : Nat → Int32} (hL : L ≤ 3072) (C0 : lw_At p s m meth c b L xs) : W p l e room_1 s m #[Value.ref b] below meth c s.heap [] 0 0 (lw_Z below #[Value.ref b] s) (entryFrame m ([Value.ref b] : List Value).toArray 4) := by
  obtain ⟨hx, hb, hr, hml, hown, hts, hX, hbl, hlocks, hgv⟩ := id C0
  have hown : s.vm.findClass RL = some m.cls := hown
  obtain ⟨D, hKc⟩ := classes_known hts
  obtain ⟨ca, hKa⟩ := arrays_known hts
  have hK : va_K D vwCl (tyL ca) s := ⟨hKc, hKa⟩
  have hN : NK s := nest_known hts
  have hAO : va_AO "IceYard$Sheet" s := over_known hts
  have hA : ∀ q : Nat, s.heap.size ≤ q → (fun q : Nat => s.heap.size ≤ q) q := fun _ h => h
  have hS : va_S (fun q : Nat => s.heap.size ≤ q) s.heap s.heap [] := va_S.rf
  have hP : va_P D vwCl [] s.heap := fun k q h => by simp at h
  have hD : va_D (fun q : Nat => s.heap.size ≤ q) [] := ⟨fun i j p q h => by simp at h, fun k q h => by simp at h⟩
  have hl := lv_entry ([.ref b]) (n := 4) (Nat.le_of_ble_eq_true rfl)
  rw [lg_entry_eq]
  generalize (lg_sl ([.ref b]) ++ List.replicate (4 - (lg_sl ([.ref b])).length) Slot.unset).toArray = ls at hl ⊢
  have hl : lv_has ls 4 [(0, .ref b)] := hl
  have hbw : ∀ w ∈ BW, w.before #[Value.ref b] s = true := fun w h => hts w (bw_in w h)
  -- new IceYard
  obtain ⟨C1, T1, N1, ty1, hc1, hin1, hty1, g11, g12, g13, g14, g15, g16⟩ := nc_RL_7
  refine va_new (fs := (([(3, 0), (3, 0), (3, 0), (3, 0), (3, 0), (3, 0), (3, 0), (3, 0), (3, 0), (1, 0), (0, 0), (0, 0), (0, 0)] : List (Nat × Nat)).mapIdx (slotV (fun _ => 0) M0 0))) hx hb hbw hin1 ty1 hty1 hown (hbw _ g11) (hbw _ g12) (hbw _ g13) hK hP hD hS hA hc1 (fun j hj => by rw [g14 j hj]; exact dfl_V g16 (fun _ => ⟨rfl, rfl⟩) j (by rw [g15]; exact hj)) (Nat.le_of_ble_eq_true rfl) (by rw [← g15]; exact Nat.le_of_ble_eq_true rfl) dL_law_0 (fun q1 H hP hD hS => ?_)
  have hP : va_P D vwCl (wsOf [(0, 7, [(3, 0), (3, 0), (3, 0), (3, 0), (3, 0), (3, 0), (3, 0), (3, 0), (3, 0), (1, 0), (0, 0), (0, 0), (0, 0)])] ca (fun _ => q1) M0) H := hP
  have hD : va_D (fun q : Nat => s.heap.size ≤ q) (wsOf [(0, 7, [(3, 0), (3, 0), (3, 0), (3, 0), (3, 0), (3, 0), (3, 0), (3, 0), (3, 0), (1, 0), (0, 0), (0, 0), (0, 0)])] ca (fun _ => q1) M0) := hD
  refine W.widen (k := 1) (n := 13) (Nat.le_refl _) (by rw [← g15]; exact Nat.le_refl _) ?_
  refine lv_dup hx hb dL_law_3 rfl ?_
  have mi := mi_RL_9
  obtain ⟨m1, m2, m3, m4, m5, m6, m7⟩ := mi
  have hF := freeP (H0 := s.heap) hD hS.1 hA
  have hg1 : GoodIn lw_tbl (.code yX8_init cX8_init 1 none :: BW) := goodL (gBW (fun w hw => by
    rcases List.mem_cons.mp hw with rfl | h
    · exact m4
    · exact h))
  refine any_callA (mc := 29) (ms := 10771) (r := none) (A1 := va_A (wsOf [(0, 7, [(3, 0), (3, 0), (3, 0), (3, 0), (3, 0), (3, 0), (3, 0), (3, 0), (3, 0), (1, 0), (0, 0), (0, 0), (0, 0)])] ca (fun _ => q1) M0) H.size) (P := fun t => ∃ ad', (∀ k, k < 1 → ad' k = q1) ∧ va_P D vwCl (wsOf SXc ca ad' σXc) t.heap ∧ va_D (va_A (wsOf [(0, 7, [(3, 0), (3, 0), (3, 0), (3, 0), (3, 0), (3, 0), (3, 0), (3, 0), (3, 0), (1, 0), (0, 0), (0, 0), (0, 0)])] ca (fun _ => q1) M0) H.size) (wsOf SXc ca ad' σXc)) (rest := [.ref q1]) (free := va_A (wsOf [(0, 7, [(3, 0), (3, 0), (3, 0), (3, 0), (3, 0), (3, 0), (3, 0), (3, 0), (3, 0), (1, 0), (0, 0), (0, 0), (0, 0)])] ca (fun _ => q1) M0) H.size)
    (va_runI (As := []) (rest := [.ref q1]) ⟨hx, hb, hml, hown, hts⟩ (coAX8 l D ca (fun _ => q1) H.size) (cwI 0 hts hg1 rfl rfl rfl (hbw _ m3) (hbw _ (m1.resolve_right (by decide +kernel))) (hbw _ m2) m6 m5 ⟨Nat.le_of_ble_eq_true rfl, Nat.le_of_ble_eq_true rfl⟩) ⟨blindA, fun U hU hW => ⟨rfl, by rw [hU], by rw [hU]; exact hP, va_K.moved hW.alike hK, hD.weaken (fun _ _ _ _ => trivial), hN.warm hW, va_AO.moved hW.alike hAO⟩⟩ rfl rfl hl.1 rfl (lv_room (Nat.le_of_ble_eq_true rfl)) dL_law_4 ⟨Nat.le_of_ble_eq_true rfl, Nat.le_of_ble_eq_true rfl⟩) hS hF hF (fun t H1 locs1 ht hPt hk hS1 => ?_)
  obtain ⟨ad1, hag1, hP1, hD1⟩ := hPt
  rw [ht] at hP1
  have hq1 : ad1 0 = q1 := hag1 0 (by decide)
  have hP2 : va_P D vwCl (wsOf SX ca (fun k => ad1 (pmX k)) σX0) H1 := hP1.by pmX permX
  have hD2 : va_D (fun q : Nat => s.heap.size ≤ q) (wsOf SX ca (fun k => ad1 (pmX k)) σX0) := (hD1.by pmX permX (fun i j hi hj h => permX_inj i j (by rw [wsOf, List.length_mapIdx] at hi; exact hi) (by rw [wsOf, List.length_mapIdx] at hj; exact hj) h)).weaken (fun _ _ _ h => hF _ h)
  show W p l e room_1 s m #[Value.ref b] below meth c H1 locs1 (1 + 29) (13 + 10771) (lw_Z below #[Value.ref b] s) (F0 m 7 ls [.ref q1])
  refine lv_astore_n (lv' := [(1, .ref q1), (0, .ref b)]) hx hb dL_law_7 rfl hl (by decide) rfl (fun ls hl => ?_)
  -- new IceYardModel
  obtain ⟨C2, T2, N2, ty2, hc2, hin2, hty2, g21, g22, g23, g24, g25, g26⟩ := nc_RL_10
  refine va_new (fs := (([(0, 0), (0, 0), (0, 0), (0, 0), (3, 0), (3, 0), (3, 0), (3, 0), (1, 0), (0, 0), (0, 0), (0, 0), (3, 0), (3, 0), (3, 0), (0, 0), (0, 0), (1, 0), (1, 0), (0, 0), (3, 0), (3, 0), (0, 0), (3, 0), (3, 0), (3, 0), (3, 0), (3, 0), (3, 0), (3, 0), (3, 0), (3, 0), (0, 0), (0, 0), (0, 0), (3, 0), (3, 0), (3, 0), (3, 0), (3, 0), (3, 0), (0, 0), (0, 0), (0, 0), (3, 0), (3, 0), (3, 0), (3, 0), (3, 0), (3, 0), (3, 0), (0, 0)] : List (Nat × Nat)).mapIdx (slotV (fun _ => 0) M0 0))) hx hb hbw hin2 ty2 hty2 hown (hbw _ g21) (hbw _ g22) (hbw _ g23) hK hP2 hD2 hS1 hA hc2 (fun j hj => by rw [g24 j hj]; exact dfl_V g26 (fun _ => ⟨rfl, rfl⟩) j (by rw [g25]; exact hj)) (Nat.le_of_ble_eq_true rfl) (by rw [← g25]; exact Nat.le_of_ble_eq_true rfl) dL_law_8 (fun q2 H2 hP hD hS => ?_)
  have hP : va_P D vwCl (wsOf SX ca (fun k => ad1 (pmX k)) σX0 ++ wsOf [(0, 8, [(0, 0), (0, 0), (0, 0), (0, 0), (3, 0), (3, 0), (3, 0), (3, 0), (1, 0), (0, 0), (0, 0), (0, 0), (3, 0), (3, 0), (3, 0), (0, 0), (0, 0), (1, 0), (1, 0), (0, 0), (3, 0), (3, 0), (0, 0), (3, 0), (3, 0), (3, 0), (3, 0), (3, 0), (3, 0), (3, 0), (3, 0), (3, 0), (0, 0), (0, 0), (0, 0), (3, 0), (3, 0), (3, 0), (3, 0), (3, 0), (3, 0), (0, 0), (0, 0), (0, 0), (3, 0), (3, 0), (3, 0), (3, 0), (3, 0), (3, 0), (3, 0), (0, 0)])] ca (fun _ => q2) M0) H2 := hP
  have hD : va_D (fun q : Nat => s.heap.size ≤ q) (wsOf SX ca (fun k => ad1 (pmX k)) σX0 ++ wsOf [(0, 8, [(0, 0), (0, 0), (0, 0), (0, 0), (3, 0), (3, 0), (3, 0), (3, 0), (1, 0), (0, 0), (0, 0), (0, 0), (3, 0), (3, 0), (3, 0), (0, 0), (0, 0), (1, 0), (1, 0), (0, 0), (3, 0), (3, 0), (0, 0), (3, 0), (3, 0), (3, 0), (3, 0), (3, 0), (3, 0), (3, 0), (3, 0), (3, 0), (0, 0), (0, 0), (0, 0), (3, 0), (3, 0), (3, 0), (3, 0), (3, 0), (3, 0), (0, 0), (0, 0), (0, 0), (3, 0), (3, 0), (3, 0), (3, 0), (3, 0), (3, 0), (3, 0), (0, 0)])] ca (fun _ => q2) M0) := hD
  refine W.widen (k := 1000) (n := 20000) (Nat.le_of_ble_eq_true rfl) (by rw [← g25]; exact Nat.le_of_ble_eq_true rfl) ?_
  refine lv_dup hx hb dL_law_11 rfl ?_
  obtain ⟨n1, n2, n3, n4, n5, n6, n7⟩ := mi_RL_12
  have hDp := partD_app hD
  have hPp := part_app hP
  have hF2 := freeP (H0 := s.heap) hDp.2 hS.1 hA
  have hg2 : GoodIn lw_tbl (.code yX9_init cX9_init 2 none :: BW) := goodL (gBW (fun w hw => by
    rcases List.mem_cons.mp hw with rfl | h
    · exact n4
    · exact h))
  refine any_callA (mc := 31) (ms := 12006) (r := none) (A1 := va_A (wsOf [(0, 8, [(0, 0), (0, 0), (0, 0), (0, 0), (3, 0), (3, 0), (3, 0), (3, 0), (1, 0), (0, 0), (0, 0), (0, 0), (3, 0), (3, 0), (3, 0), (0, 0), (0, 0), (1, 0), (1, 0), (0, 0), (3, 0), (3, 0), (0, 0), (3, 0), (3, 0), (3, 0), (3, 0), (3, 0), (3, 0), (3, 0), (3, 0), (3, 0), (0, 0), (0, 0), (0, 0), (3, 0), (3, 0), (3, 0), (3, 0), (3, 0), (3, 0), (0, 0), (0, 0), (0, 0), (3, 0), (3, 0), (3, 0), (3, 0), (3, 0), (3, 0), (3, 0), (0, 0)])] ca (fun _ => q2) M0) H2.size) (P := fun t => ∃ ad', (∀ k, k < 1 → ad' k = q2) ∧ va_P D vwCl (wsOf SM ca ad' τM0) t.heap ∧ va_D (va_A (wsOf [(0, 8, [(0, 0), (0, 0), (0, 0), (0, 0), (3, 0), (3, 0), (3, 0), (3, 0), (1, 0), (0, 0), (0, 0), (0, 0), (3, 0), (3, 0), (3, 0), (0, 0), (0, 0), (1, 0), (1, 0), (0, 0), (3, 0), (3, 0), (0, 0), (3, 0), (3, 0), (3, 0), (3, 0), (3, 0), (3, 0), (3, 0), (3, 0), (3, 0), (0, 0), (0, 0), (0, 0), (3, 0), (3, 0), (3, 0), (3, 0), (3, 0), (3, 0), (0, 0), (0, 0), (0, 0), (3, 0), (3, 0), (3, 0), (3, 0), (3, 0), (3, 0), (3, 0), (0, 0)])] ca (fun _ => q2) M0) H2.size) (wsOf SM ca ad' τM0)) (rest := [.ref q2]) (free := va_A (wsOf [(0, 8, [(0, 0), (0, 0), (0, 0), (0, 0), (3, 0), (3, 0), (3, 0), (3, 0), (1, 0), (0, 0), (0, 0), (0, 0), (3, 0), (3, 0), (3, 0), (0, 0), (0, 0), (1, 0), (1, 0), (0, 0), (3, 0), (3, 0), (0, 0), (3, 0), (3, 0), (3, 0), (3, 0), (3, 0), (3, 0), (3, 0), (3, 0), (3, 0), (0, 0), (0, 0), (0, 0), (3, 0), (3, 0), (3, 0), (3, 0), (3, 0), (3, 0), (0, 0), (0, 0), (0, 0), (3, 0), (3, 0), (3, 0), (3, 0), (3, 0), (3, 0), (3, 0), (0, 0)])] ca (fun _ => q2) M0) H2.size)
    (va_runI (As := []) (rest := [.ref q2]) ⟨hx, hb, hml, hown, hts⟩ (coAX9 l D ca (fun _ => q2) H2.size) (cwI 0 hts hg2 rfl rfl rfl (hbw _ n3) (hbw _ (n1.resolve_right (by decide +kernel))) (hbw _ n2) n6 n5 ⟨Nat.le_of_ble_eq_true rfl, Nat.le_of_ble_eq_true rfl⟩) ⟨blindA, fun U hU hW => ⟨rfl, by rw [hU], by rw [hU]; exact hPp.2, va_K.moved hW.alike hK, hDp.2.weaken (fun _ _ _ _ => trivial), hN.warm hW, va_AO.moved hW.alike hAO⟩⟩ rfl rfl hl.1 rfl (lv_room (Nat.le_of_ble_eq_true rfl)) dL_law_12 ⟨Nat.le_of_ble_eq_true rfl, Nat.le_of_ble_eq_true rfl⟩) hS hF2 hF2 (fun t H3 locs3 ht hPt hk hS3 => ?_)
  obtain ⟨ad2, hag2, hP3, hD3⟩ := hPt
  rw [ht] at hP3
  have hq2 : ad2 0 = q2 := hag2 0 (by decide)
  have hJ := join2 hP hD hk hF2 hP3 hD3
  show W p l e room_1 s m #[Value.ref b] below meth c H3 locs3 (1000 + 31) (20000 + 12006) (lw_Z below #[Value.ref b] s) (F0 m 15 ls [.ref q2])
  refine lv_astore_n (lv' := [(2, .ref q2), (1, .ref q1), (0, .ref b)]) hx hb dL_law_15 rfl hl (by decide) rfl (fun ls hl => ?_)
  refine lv_iconst (v := 0) hx hb dL_law_16 (by decide) ?_
  refine lv_istore_n (lv' := [(3, .int 0), (2, .ref q2), (1, .ref q1), (0, .ref b)]) hx hb dL_law_17 rfl hl (by decide) rfl (fun ls hl => ?_)
  refine W.widen (k := 600000) (n := 7302250) (Nat.le_of_ble_eq_true rfl) (Nat.le_of_ble_eq_true rfl) ?_
  have hl2 : lv_has ls 4 [(0, .ref b), (1, .ref q1), (2, .ref q2), (3, .int 0)] := lv_sub hl [3, 2, 1, 0] rfl
  rw [← hq1, ← hq2] at hl2
  exact law_loop (Y := (p, l, e, s, m, b, below, meth, c, D, ca, (fun k => ad1 (pmX k)), ad2, L, xs)) hs hL (L + 12) 0 0 σX0 τM0 nI_0.symm (Nat.zero_le _) (show L + 12 ≤ 0 + (L + 12) by omega) h0 ⟨hx, hb, hr, hml, hown, hts, hX, hbl, hlocks, hK, hN, hL⟩ H3 locs3 ls hJ.1 hJ.2 hS3 hl2

/-! ===== lose, put, cell ===== -/
theorem m1_lt : (-1 : Int32) < 0 := by decide
theorem nle_m1 : ¬ (0 : Int32) ≤ -1 := by decide
theorem rel_S {A : As} {σ' τ' : Mem} (hA : WA A) {k : Nat} {s : Option Sh} {f : Int32} (hs : ∀ x, s = some x → x.1 ≤ 2 ∧ x.2.1 ≤ 60) (h1 : RX (wS A (va_up (aS A) k s) f) σ') (h2 : RM (wS A (va_up (aS A) k s) f) τ') : RelW σ' τ' := ⟨_, wa_S hA (wa_up hA hs), h1, h2⟩
theorem lose_m2 {A : As} {τ : Mem} (hA : WA A) (h : RM A τ) {k : Nat} (hk : k < 4) : RM (wS A (va_up (aS A) k none) (aF A)) (setI τ 28 k (-1)) := by
  refine rm_S h (fun o h1 h2 => setI_ne1 (by omega)) (fun j hj => by rw [setI_ne1 (by decide)]) (by rw [setI_ne1 (by decide)]; exact h.2.2.2.2.2.2.2) rfl (mc_up h.2.2.2.2.1 (fun j hj hne s' hs' hx => shM_cong ?_ ?_ (fun i hi => ?_) hx hs') (fun j x hj hx => (hA.2.2.2.2.2 j x hj hx).2) ?_)
  · rw [setI_s1]; simp [upd, hne]
  · rw [setI_ne1 (by decide)]
  · rw [setI_ne1 (by decide)]
  · show (setI τ 28 k (-1)).1 28 k = -1
    rw [setI_s1]; simp [upd]
theorem sim_lose : Sim_lose RelW := by
  intro σ τ a h
  obtain ⟨A, hA, hX, hM⟩ := id h
  by_cases hk : 0 ≤ a.toInt ∧ a.toInt < 4
  · obtain ⟨k, hk4, rfl⟩ := blk (n := 4) hk
    have hx := xc_at hX.2.2.2.2.1 hk4
    have hm := hM.2.2.2.2.1 k hk4
    cases hs : aS A k with
    | none =>
      rw [hs] at hx hm
      refine ⟨0, σ, setI τ 28 k (-1), ?_, ?_, rel_S hA (k := k) (s := none) (f := aF A) (fun x hx => by cases hx) (rx_S hX (fun _ _ => rfl) (fun _ _ => rfl) hX.2.2.2.2.2.2.2 rfl (xc_up hX.2.2.2.2.1 hk4 (fun _ _ _ => ⟨rfl, rfl⟩) hx)) (lose_m2 hA hM hk4)⟩
      · unfold FX8_lose
        rw [sat_in _ hk4, bi_some, sh_some (by omega), hno_none hx.1, bi_some, if_neg (show ¬ (1 : Int32) = 0 by decide)]
      · unfold FX9_lose
        rw [nsh_eq, if_pos hk, bi_some, if_pos rfl, rd_in hk4 (by decide), show τ.1 28 k = -1 from hm, if_neg nle_m1]
        unfold FX9_lose_23
        rw [stI_in hk4 (by decide)]
    | some s =>
      rw [hs] at hx hm
      have hw := hA.2.2.2.2.2 k s hk4 hs
      refine ⟨1, setI (setI σ (7 + k) 1 (-1)) (7 + k) 2 0, setI τ 28 k (-1), ?_, ?_, rel_S hA (k := k) (s := none) (f := aF A) (fun x hx => by cases hx) (rx_S hX (fun o ho => by rw [setI_ne1 (by omega), setI_ne1 (by omega)]) (fun j _ => by rw [setI_ne1 (by omega), setI_ne1 (by omega)]) (by rw [setI_ne1 (by omega), setI_ne1 (by omega)]; exact hX.2.2.2.2.2.2.2) rfl (xc_up hX.2.2.2.2.1 hk4 (fun j hj hne => ⟨by rw [setI_ne1 (by omega), setI_ne1 (by omega)], by rw [setI_ne1 (by omega), setI_ne1 (by omega)]⟩) ?_)) (lose_m2 hA hM hk4)⟩
      · unfold FX8_lose
        rw [sat_in _ hk4, bi_some, sh_some (by omega), hno_some hx.1 hw.1, bi_some, if_pos rfl]
        rfl
      · unfold FX9_lose
        rw [nsh_eq, if_pos hk, bi_some, if_pos rfl, rd_in hk4 (by decide), hm.1, if_pos (nI_pos' (by omega))]
        unfold FX9_lose_23
        rw [stI_in hk4 (by decide)]
      · show _ = -1 ∧ _ = 0
        constructor <;> simp [setI_s1, upd]
  · refine ⟨-1, σ, τ, ?_, ?_, h⟩
    · unfold FX8_lose
      rw [sat_out _ hk, bi_some, sh_none]
    · unfold FX9_lose
      rw [nsh_eq, if_neg hk, bi_some, if_neg (show ¬ (1 : Int32) = 0 by decide)]
theorem hce_eq {o n : Nat} {σ : Mem} (h : σ.1 o 2 = nI n) (hn : n ≤ 60) (a : Int32) : FX5_hasCell o σ a = some (if 0 ≤ a.toInt ∧ a.toInt < n then 1 else 0, σ) := by
  unfold FX5_hasCell
  have ht : (nI n).toInt = n := nI_toInt (by omega)
  rw [h]
  by_cases h1 : a < 0
  · rw [if_pos h1, if_neg (by rw [toInt_lt] at h1; change a.toInt < 0 at h1; omega)]; rfl
  · rw [if_neg h1]
    rw [toInt_lt] at h1
    change ¬ a.toInt < 0 at h1
    by_cases h2 : nI n ≤ a
    · rw [if_pos h2, if_neg (by rw [toInt_le, ht] at h2; omega)]; rfl
    · rw [if_neg h2]
      rw [toInt_le, ht] at h2
      rw [if_neg (show ¬ (60 : Int32) ≤ a by rw [toInt_le]; show ¬ 60 ≤ a.toInt; omega), if_pos (by omega)]; rfl
theorem noc_some {k n : Nat} {τ : Mem} (hk : k < 4) (h : τ.1 28 k = nI n) (hn : n ≤ 60) (a : Int32) : FX9_noCell τ (nI k) a = some (if 0 ≤ a.toInt ∧ a.toInt < n then 0 else 3, τ) := by
  unfold FX9_noCell
  rw [rd_in hk (by decide), h, if_pos (nI_pos' (by omega)), rd_in hk (by decide), h, in_eq, sub1_64 (by omega), i64_toInt, bi_some, show (0 : Int64).toInt = 0 from rfl]
  by_cases hc : 0 ≤ a.toInt ∧ a.toInt < n
  · rw [if_pos hc, if_pos (show 0 ≤ a.toInt ∧ a.toInt ≤ (n : Int) - 1 by omega), if_neg (show ¬ (1 : Int32) = 0 by decide)]
  · rw [if_neg hc, if_neg (show ¬ (0 ≤ a.toInt ∧ a.toInt ≤ (n : Int) - 1) by omega), if_pos rfl]
theorem noc_none {k : Nat} {τ : Mem} (hk : k < 4) (h : τ.1 28 k = -1) (a : Int32) : FX9_noCell τ (nI k) a = some (1, τ) := by
  unfold FX9_noCell
  rw [rd_in hk (by decide), h, if_neg nle_m1]
/-- what comes to a cell of a lane -/
def cutI (l : Nat) (v : Int32) : Int32 := if l = 0 then v.toInt8.toInt32 else if l = 1 then v.toInt16.toInt32 else v
theorem cut_eq {o l : Nat} {σ : Mem} (h : σ.1 o 1 = nI l) (hl : l ≤ 2) (v : Int32) : FX5_cut o σ v = some (cutI l v, σ) := by
  unfold FX5_cut cutI
  rw [h]
  rcases (show l = 0 ∨ l = 1 ∨ l = 2 by omega) with rfl | rfl | rfl
  · rw [if_pos (show nI 0 = (0 : Int32) from rfl)]; rfl
  · rw [if_neg (show ¬ nI 1 = (0 : Int32) by decide), if_pos (show nI 1 = (1 : Int32) from rfl)]; rfl
  · rw [if_neg (show ¬ nI 2 = (0 : Int32) by decide), if_neg (show ¬ nI 2 = (1 : Int32) by decide)]; rfl
def putS (s : Sh) (i : Nat) (v : Int32) : Option Sh := some (s.1, s.2.1, upd s.2.2 i (cutI s.1 v))
theorem sim_put : Sim_put RelW := by
  intro σ τ a i v h
  obtain ⟨A, hA, hX, hM⟩ := id h
  have hX0 := rx_F hX 0
  have hM0 := rm_F hM 0
  by_cases hk : 0 ≤ a.toInt ∧ a.toInt < 4
  · obtain ⟨k, hk4, rfl⟩ := blk (n := 4) hk
    have hx := xc_at hX0.2.2.2.2.1 hk4
    have hm := hM.2.2.2.2.1 k hk4
    change shX (7 + k) (11 + k) (aS A k) _ at hx
    cases hs : aS A k with
    | none =>
      rw [hs] at hx hm
      refine ⟨-11, setI σ 0 12 1, setI τ 0 0 1, ?_, ?_, _, wa_F hA 1, rx_F hX 1, rm_F hM 1⟩
      · unfold FX8_put
        rw [nm_eq, sat_in _ hk4, bi_some, sh_some (by omega), hno_none hx.1, bi_some, if_neg (show ¬ (1 : Int32) = 0 by decide), fy_eq, bi_some, set2]; rfl
      · unfold FX9_put
        rw [nsh_eq, if_pos hk, bi_some, if_pos rfl, noc_none hk4 hm, bi_some, if_neg (show ¬ (1 : Int32) ≤ 0 by decide), noc_none hk4 hm, bi_some, fd_eq, bi_some]; rfl
    | some s =>
      rw [hs] at hx hm
      have hw := hA.2.2.2.2.2 k s hk4 hs
      by_cases hi : 0 ≤ i.toInt ∧ i.toInt < s.2.1
      · obtain ⟨i', hi', rfl⟩ := blk hi
        refine ⟨1, setI (setI σ 0 12 0) (7 + k + 4) i' (cutI s.1 v), setI (setI τ 30 (60 * k + i') (cutI s.1 v)) 0 0 0, ?_, ?_, rel_S hA (k := k) (s := putS s i' v) (f := 0) (fun x hx => by cases hx; exact hw) (rx_S hX (fun o ho => by rw [setI_ne1 (by omega), setI_ne1 (by omega)]) (fun j hj => by rw [setI_ne1 (by omega), setI_s1]; simp [upd, hj]) (by rw [setI_ne1 (by omega), setI_s1]; simp [upd]) rfl (xc_up hX.2.2.2.2.1 hk4 (fun j hj hne => ⟨by rw [setI_ne1 (by omega), setI_ne1 (by omega)], by rw [setI_ne1 (by omega), setI_ne1 (by omega)]⟩) ?_)) (rm_S hM (fun o h1 h2 => by rw [setI_ne1 (by omega), setI_ne1 (by omega)]) (fun j hj => by rw [setI_s1, setI_ne1 (by decide)]; simp [upd, hj]) (by rw [setI_s1]; simp [upd]) rfl (mc_up hM.2.2.2.2.1 (fun j hj hne s' hs' hx => shM_cong ?_ ?_ (fun q hq => ?_) hx hs') (fun j x hj hx => (hA.2.2.2.2.2 j x hj hx).2) ?_))⟩
        · unfold FX8_put
          rw [nm_eq, sat_in _ hk4, bi_some, sh_some (by omega), hno_some hx.1 hw.1, bi_some, if_pos rfl, hce_eq hx.2.1 hw.2, if_pos hi, bi_some, if_neg (show ¬ (1 : Int32) = 0 by decide)]
          unfold FX5_write
          rw [hce_eq hx.2.1 hw.2, if_pos hi, bi_some, if_neg (show ¬ (1 : Int32) = 0 by decide), cut_eq hx.1 hw.1, bi_some, stI_in (by omega) (by decide), bv_some]
        · unfold FX9_put
          rw [nsh_eq, if_pos hk, bi_some, if_pos rfl, noc_some hk4 hm.1 hw.2, if_pos hi, bi_some, if_pos (show (0 : Int32) ≤ 0 by decide), rd_in hk4 (by decide), hm.2.1, n60]
          unfold cutI
          have hb : 60 * k + i' < 240 := by omega
          rcases (show s.1 = 0 ∨ s.1 = 1 ∨ s.1 = 2 by omega) with e | e | e
          · rw [e, if_pos (show nI 0 = (0 : Int32) from rfl), stI_in hb (by decide), rf_eq, bi_some]; rfl
          · rw [e, if_neg (show ¬ nI 1 = (0 : Int32) by decide), rd_in hk4 (by decide), hm.2.1, e, if_pos (show nI 1 = (1 : Int32) from rfl), stI_in hb (by decide), rf_eq, bi_some]; rfl
          · rw [e, if_neg (show ¬ nI 2 = (0 : Int32) by decide), rd_in hk4 (by decide), hm.2.1, e, if_neg (show ¬ nI 2 = (1 : Int32) by decide), stI_in hb (by decide), rf_eq, bi_some]; rfl
        · obtain ⟨x1, x2, x3⟩ := hx
          refine ⟨?_, ?_, fun q hq => ?_⟩
          · rw [setI_ne1 (by omega)]; exact x1
          · rw [setI_ne1 (by omega)]; exact x2
          · rw [show 11 + k = 7 + k + 4 by omega, setI_s1]
            show upd _ _ _ _ = upd _ _ _ _
            have x3q := x3 q hq
            rw [show 11 + k = 7 + k + 4 by omega] at x3q
            by_cases e : q = i'
            · subst e; simp [upd]
            · simp [upd, e, x3q]
        · rw [setI_ne1 (by decide), setI_ne1 (by decide)]
        · rw [setI_ne1 (by decide), setI_ne1 (by decide)]
        · rw [setI_ne1 (by decide), setI_s1]
          simp only [upd]
          rw [if_neg (by omega)]
        · refine ⟨?_, ?_, fun q hq => ?_⟩
          · rw [setI_ne1 (by decide), setI_ne1 (by decide)]; exact hm.1
          · rw [setI_ne1 (by decide), setI_ne1 (by decide)]; exact hm.2.1
          · rw [setI_ne1 (by decide), setI_s1]
            show upd _ _ _ _ = upd _ _ _ _
            by_cases e : q = i'
            · subst e; simp [upd]
            · have := hm.2.2 q hq
              simp [upd, e, this]
      · refine ⟨-13, setI σ 0 12 3, setI τ 0 0 3, ?_, ?_, _, wa_F hA 3, rx_F hX 3, rm_F hM 3⟩
        · unfold FX8_put
          rw [nm_eq, sat_in _ hk4, bi_some, sh_some (by omega), hno_some hx.1 hw.1, bi_some, if_pos rfl, hce_eq hx.2.1 hw.2, if_neg hi, bi_some, if_pos rfl, fy_eq, bi_some, set2]; rfl
        · unfold FX9_put
          rw [nsh_eq, if_pos hk, bi_some, if_pos rfl, noc_some hk4 hm.1 hw.2, if_neg hi, bi_some, if_neg (show ¬ (3 : Int32) ≤ 0 by decide), noc_some hk4 hm.1 hw.2, if_neg hi, bi_some, fd_eq, bi_some]; rfl
  · refine ⟨-1, setI σ 0 12 0, setI τ 0 0 0, ?_, ?_, _, wa_F hA 0, hX0, hM0⟩
    · unfold FX8_put
      rw [nm_eq, sat_out _ hk, bi_some, sh_none]
    · unfold FX9_put
      rw [nsh_eq, if_neg hk, bi_some, if_neg (show ¬ (1 : Int32) = 0 by decide), rf_eq, bi_some]
theorem fl_eq (τ : Mem) (f : Int32) : FX9_failedLong τ f = some (-9223372036854775808, setI τ 0 0 f) := rfl
theorem lo_eq (τ : Mem) : FX9_lost τ = some (-9223372036854775808, τ) := rfl
theorem sim_cell : Sim_cell RelW := by
  intro σ τ a i l h
  obtain ⟨A, hA, hX, hM⟩ := id h
  have hX0 := rx_F hX 0
  have hM0 := rm_F hM 0
  have hRef : RelW (setI σ 0 12 0) (setI τ 0 0 0) := ⟨_, wa_F hA 0, hX0, hM0⟩
  have s2 : ∀ f, setI (setI τ 0 0 0) 0 0 f = setI τ 0 0 f := fun f => set2
  by_cases hk : 0 ≤ a.toInt ∧ a.toInt < 4
  · obtain ⟨k, hk4, rfl⟩ := blk (n := 4) hk
    have hx := xc_at hX0.2.2.2.2.1 hk4
    have hm := hM0.2.2.2.2.1 k hk4
    change shX (7 + k) (11 + k) (aS A k) _ at hx
    change shM k (aS A k) _ at hm
    by_cases hl : 0 ≤ l.toInt ∧ l.toInt ≤ 2
    · obtain ⟨l', hl', rfl⟩ := blk2 (n := 2) hl
      cases hs : aS A k with
      | none =>
        rw [hs] at hx hm
        refine ⟨-9223372036854775808, setI σ 0 12 1, setI τ 0 0 1, ?_, ?_, _, wa_F hA 1, rx_F hX 1, rm_F hM 1⟩
        · unfold FX8_cell
          rw [nm_eq, sat_in _ hk4, bi_some, sh_some (by omega), ila_eq, if_pos hl, bi_some, if_neg (show ¬ (1 : Int32) = 0 by decide)]
          unfold FX5_faultTakenAs
          rw [hno_none hx.1, bi_some, if_neg (show ¬ (1 : Int32) = 0 by decide), bi_some, if_neg (show ¬ (1 : Int32) = 0 by decide)]
          unfold FX8_cell_53
          rw [if_neg (show ¬ (1 : Int32) = 0 by decide), fy_eq, bi_some, set2]
        · unfold FX9_cell
          rw [nm_eq, nsh_eq, if_pos hk, bi_some, if_pos rfl, in02, if_pos hl, bi_some, if_neg (show ¬ (1 : Int32) = 0 by decide), rd_in hk4 (by decide), show (setI τ 0 0 0).1 28 k = -1 from hm, if_pos m1_lt]
          unfold FX9_cell_53
          rw [noc_none hk4 hm, bi_some, if_neg (show ¬ (1 : Int32) ≤ 0 by decide), noc_none hk4 hm, bi_some, fl_eq, bi_some, s2]
      | some s =>
        rw [hs] at hx hm
        have hw := hA.2.2.2.2.2 k s hk4 hs
        have hmz : ¬ (setI τ 0 0 0).1 28 k < 0 := by rw [hm.1]; exact nI_pos (by omega)
        by_cases hc : s.1 = l'
        · by_cases hi : 0 ≤ i.toInt ∧ i.toInt < s.2.1
          · obtain ⟨i', hi', rfl⟩ := blk hi
            refine ⟨(s.2.2 i').toInt64, setI σ 0 12 0, setI τ 0 0 0, ?_, ?_, hRef⟩
            · unfold FX8_cell
              rw [nm_eq, sat_in _ hk4, bi_some, sh_some (by omega), ila_eq, if_pos hl, bi_some, if_neg (show ¬ (1 : Int32) = 0 by decide)]
              unfold FX5_faultTakenAs
              rw [hno_some hx.1 hw.1, bi_some, if_pos rfl, hx.1, hc, if_pos rfl, bi_some, if_pos rfl, hce_eq hx.2.1 hw.2, if_pos hi, bi_some, if_neg (show ¬ (1 : Int32) = 0 by decide)]
              unfold FX8_cell_53
              rw [if_pos rfl]
              unfold FX5_read
              rw [hce_eq hx.2.1 hw.2, if_pos hi, bi_some, if_neg (show ¬ (1 : Int32) = 0 by decide), rd_in (by omega) (by decide), bi_some]
              have := hx.2.2 i' hi'
              rw [show 11 + k = 7 + k + 4 by omega] at this
              rw [this]
            · unfold FX9_cell
              rw [nm_eq, nsh_eq, if_pos hk, bi_some, if_pos rfl, in02, if_pos hl, bi_some, if_neg (show ¬ (1 : Int32) = 0 by decide), rd_in hk4 (by decide), if_neg hmz, rd_in hk4 (by decide), hm.2.1, hc, if_pos rfl]
              unfold FX9_cell_53
              rw [noc_some hk4 hm.1 hw.2, if_pos hi, bi_some, if_pos (show (0 : Int32) ≤ 0 by decide), n60, rd_in (by omega) (by decide), hm.2.2 i' hi']
          · refine ⟨-9223372036854775808, setI σ 0 12 3, setI τ 0 0 3, ?_, ?_, _, wa_F hA 3, rx_F hX 3, rm_F hM 3⟩
            · unfold FX8_cell
              rw [nm_eq, sat_in _ hk4, bi_some, sh_some (by omega), ila_eq, if_pos hl, bi_some, if_neg (show ¬ (1 : Int32) = 0 by decide)]
              unfold FX5_faultTakenAs
              rw [hno_some hx.1 hw.1, bi_some, if_pos rfl, hx.1, hc, if_pos rfl, bi_some, if_pos rfl, hce_eq hx.2.1 hw.2, if_neg hi, bi_some, if_pos rfl]
              unfold FX8_cell_53
              rw [if_neg (show ¬ (3 : Int32) = 0 by decide), fy_eq, bi_some, set2]
            · unfold FX9_cell
              rw [nm_eq, nsh_eq, if_pos hk, bi_some, if_pos rfl, in02, if_pos hl, bi_some, if_neg (show ¬ (1 : Int32) = 0 by decide), rd_in hk4 (by decide), if_neg hmz, rd_in hk4 (by decide), hm.2.1, hc, if_pos rfl]
              unfold FX9_cell_53
              rw [noc_some hk4 hm.1 hw.2, if_neg hi, bi_some, if_neg (show ¬ (3 : Int32) ≤ 0 by decide), noc_some hk4 hm.1 hw.2, if_neg hi, bi_some, fl_eq, bi_some, s2]
        · have hc2 : ¬ nI s.1 = nI l' := fun e => hc ((nI_eq (by omega) (by omega)).mp e)
          refine ⟨-9223372036854775808, setI σ 0 12 2, setI τ 0 0 2, ?_, ?_, _, wa_F hA 2, rx_F hX 2, rm_F hM 2⟩
          · unfold FX8_cell
            rw [nm_eq, sat_in _ hk4, bi_some, sh_some (by omega), ila_eq, if_pos hl, bi_some, if_neg (show ¬ (1 : Int32) = 0 by decide)]
            unfold FX5_faultTakenAs
            rw [hno_some hx.1 hw.1, bi_some, if_pos rfl, hx.1, if_neg hc2, bi_some, if_neg (show ¬ (2 : Int32) = 0 by decide)]
            unfold FX8_cell_53
            rw [if_neg (show ¬ (2 : Int32) = 0 by decide), fy_eq, bi_some, set2]
          · unfold FX9_cell
            rw [nm_eq, nsh_eq, if_pos hk, bi_some, if_pos rfl, in02, if_pos hl, bi_some, if_neg (show ¬ (1 : Int32) = 0 by decide), rd_in hk4 (by decide), if_neg hmz, rd_in hk4 (by decide), hm.2.1, if_neg hc2, fl_eq, bi_some, s2]
    · refine ⟨-9223372036854775808, setI σ 0 12 0, setI τ 0 0 0, ?_, ?_, hRef⟩
      · unfold FX8_cell
        rw [nm_eq, sat_in _ hk4, bi_some, sh_some (by omega), ila_eq, if_neg hl, bi_some, if_pos rfl]
      · unfold FX9_cell
        rw [nm_eq, nsh_eq, if_pos hk, bi_some, if_pos rfl, in02, if_neg hl, bi_some, if_pos rfl, lo_eq, bi_some]
  · refine ⟨-9223372036854775808, setI σ 0 12 0, setI τ 0 0 0, ?_, ?_, hRef⟩
    · unfold FX8_cell
      rw [nm_eq, sat_out _ hk, bi_some, sh_none]
    · unfold FX9_cell
      rw [nm_eq, nsh_eq, if_neg hk, bi_some, if_neg (show ¬ (1 : Int32) = 0 by decide), lo_eq, bi_some]

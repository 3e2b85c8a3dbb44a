/-! ===== lose, put, cell ===== -/
theorem m1_lt : (-1 : Int32) < 0 := by decide
theorem nle_m1 : ¬ (0 : Int32) ≤ -1 := by decide
theorem rel_S {A : As} {σ' τ' : Mem} (hA : WA A) {k : Nat} {s : Option Sh} {f : Int32} (hs : ∀ x, s = some x → x.1 ≤ 2 ∧ x.2.1 ≤ 60) (h1 : RX (wS A (va_up (aS A) k s) f) σ') (h2 : RM (wS A (va_up (aS A) k s) f) τ') : RelW σ' τ' := ⟨_, wa_S hA (wa_up hA hs), h1, h2⟩
theorem lose_m2 {A : As} {τ : Mem} (hA : WA A) (h : RM A τ) {k : Nat} (hk : k < 4) : RM (wS A (va_up (aS A) k none) (aF A)) (setI τ 28 k (-1)) := by
  refine rm_S h (fun o h1 h2 => setI_ne1 (by omega)) (fun j hj => by rw [setI_ne1 (by decide)]) (by rw [setI_ne1 (by decide)]; exact h.2.2.2.2.2.2.2) rfl (mc_up h.2.2.2.2.1 (fun j hj hne s' hs' hx => shM_cong ?_ ?_ (fun i hi => ?_) hx hs') (fun j x hj hx => (hA.2.2.2.2.2 j x hj hx).2) ?_)
  · rw [setI_s1]; simp [upd, hne]
  · rw [setI_ne1 (by decide)]
  · rw [setI_ne1 (by decide)]
  · show (setI τ 28 k (-1)).1 28 k = -1
    rw [setI_s1]; simp [upd]
theorem hce_eq {o n : Nat} {σ : Mem} (h : σ.1 o 2 = nI n) (hn : n ≤ 60) (a : Int32) : FX5_hasCell o σ a = some (if 0 ≤ a.toInt ∧ a.toInt < n then 1 else 0, σ) := by
  unfold FX5_hasCell
  have ht : (nI n).toInt = n := nI_toInt (by omega)
  rw [h]
  by_cases h1 : a < 0
  · rw [if_pos h1, if_neg (by rw [toInt_lt] at h1; change a.toInt < 0 at h1; omega)]; rfl
  · rw [if_neg h1]
    rw [toInt_lt] at h1
    change ¬ a.toInt < 0 at h1
    by_cases h2 : nI n ≤ a
    · rw [if_pos h2, if_neg (by rw [toInt_le, ht] at h2; omega)]; rfl
    · rw [if_neg h2]
      rw [toInt_le, ht] at h2
      rw [if_neg (show ¬ (60 : Int32) ≤ a by rw [toInt_le]; show ¬ 60 ≤ a.toInt; omega), if_pos (by omega)]; rfl
/-- what comes to a cell of a lane -/
def cutI (l : Nat) (v : Int32) : Int32 := if l = 0 then v.toInt8.toInt32 else if l = 1 then v.toInt16.toInt32 else v
theorem cut_eq {o l : Nat} {σ : Mem} (h : σ.1 o 1 = nI l) (hl : l ≤ 2) (v : Int32) : FX5_cut o σ v = some (cutI l v, σ) := by
  unfold FX5_cut cutI
  rw [h]
  rcases (show l = 0 ∨ l = 1 ∨ l = 2 by omega) with rfl | rfl | rfl
  · rw [if_pos (show nI 0 = (0 : Int32) from rfl)]; rfl
  · rw [if_neg (show ¬ nI 1 = (0 : Int32) by decide), if_pos (show nI 1 = (1 : Int32) from rfl)]; rfl
  · rw [if_neg (show ¬ nI 2 = (0 : Int32) by decide), if_neg (show ¬ nI 2 = (1 : Int32) by decide)]; rfl
def putS (s : Sh) (i : Nat) (v : Int32) : Option Sh := some (s.1, s.2.1, upd s.2.2 i (cutI s.1 v))

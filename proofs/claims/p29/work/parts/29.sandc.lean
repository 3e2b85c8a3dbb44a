/-! ===== sand: the call ===== -/
def sandN (A : As) (k g n : Nat) : Int32 := if (aD A).1 k < 36 then (if bh (aY A) T0 k g n (aD A) then 0 else fndI (finF (sandF (aY A) (aD A) k g n) 0 (dn (aY A)))) else -9
def sandC (A : As) (k g n : Nat) : Int32 := if (aD A).1 k < 36 then (if bh (aY A) T0 k g n (aD A) then -9 else oneI (finF (sandF (aY A) (aD A) k g n) 0 (dn (aY A)))) else -9
theorem fcx_eq {A : As} {σ : Mem} (hA : WA A) (hX : RX A σ) {k g n : Nat} (hk : k < db (aY A)) (hg : g < 2) (hn : n = 1 ∨ n = 2) : ∃ σ', FX3_fewestCells σ (σ.2 0 9) (nI k) (nI g) (nI n) = some (sandN A k g n, σ') ∧ RX A σ' ∧ (sandN A k g n = 1 → σ'.1 6 2 = sandC A k g n) := by
  have h6 := hA.1.2.1
  have h36 := dn_le hA.1
  obtain ⟨n', rfl⟩ : ∃ n', n = n' + 1 := ⟨n - 1, by omega⟩
  have hlt := wfd_lt hA.1 hA.2.1 hk
  unfold FX3_fewestCells
  rw [pof_eq hA.1 hA.2.1 hX.2.1 hk, bi_some]
  unfold sandN sandC
  by_cases e : (aD A).1 k < 36
  · rw [if_pos (show nI ((aD A).1 k) < (36 : Int32) from nI_lt (b := 36) e (by decide)), if_pos e, if_pos e]
    have hI : InX (aY A) T0 σ := ⟨hX.1, hX.2.2.2.2.2.1.2, x_T0 hX⟩
    obtain ⟨σ1, b1, b2, b3⟩ := bhx_eq hA.1 (t0_ok _) hk hg n' 14 (by omega) (by omega) (aD A) (σ.2 0 9) σ hA.2.1 hX.2.1 hI
    rw [show FTX3_bringsHome σ (σ.2 0 9) (nI k) (nI g) (nI (n' + 1)) = _ from b1, bi_some]
    have h51 : σ1.2 2 5 = 0 := w_ext fun i _ => by rw [b2.2.2 i, w_0]; rfl
    have hR1 : RX A σ1 := rx_fr hX (kpx_fr b3) b2.2.1 h51
    cases hbh : bh (aY A) T0 k g (n' + 1) (aD A)
    · rw [if_pos (show bI false = 0 from rfl), if_neg (show ¬ false = true by decide), if_neg (show ¬ false = true by decide)]
      obtain ⟨fr, f1, f2⟩ := fre_eq hA.1 hA.2.1 b2.1 hX.2.1
      rw [f1, bi_some]
      obtain ⟨σ2, r1, r2, r3, r4, r5, r6, r7⟩ := fcx_loop hA.1 hA.2.1 hX.2.1 hk hg (n := n') (by omega) f2 (dn (aY A)) 0 FU σ1 (Nat.zero_add _) (by show _ < 10000000; omega) b2.1 b2.2.1
      refine ⟨σ2, r1, rx_fr hR1 ⟨fun o ho => r5 o (by omega) (by omega) (by omega), fun o ho => r6 o (by omega)⟩ r3 r4, fun h => ?_⟩
      cases hf : finF (sandF (aY A) (aD A) k g (n' + 1)) 0 (dn (aY A)) with
      | none => rw [hf] at h; exact absurd h (by decide)
      | some c => exact r7 c hf
    · rw [if_neg (show ¬ bI true = 0 by decide), if_pos rfl, if_pos rfl]
      exact ⟨σ1, rfl, hR1, fun h => absurd h (by decide)⟩
  · rw [if_neg (show ¬ nI ((aD A).1 k) < (36 : Int32) from nI_nlt (b := 36) (by omega) (by omega)), if_neg e, if_neg e]
    exact ⟨σ, rfl, hX, fun h => absurd h (by decide)⟩
theorem sandN_v (A : As) (k g n : Nat) : sandN A k g n = -9 ∧ sandC A k g n = -9 ∨ sandN A k g n = 0 ∧ sandC A k g n = -9 ∨ sandN A k g n = 1 := by
  unfold sandN sandC
  by_cases e : (aD A).1 k < 36
  · rw [if_pos e, if_pos e]
    cases hbh : bh (aY A) T0 k g n (aD A)
    · rw [if_neg (show ¬ false = true by decide), if_neg (show ¬ false = true by decide)]
      cases hf : finF (sandF (aY A) (aD A) k g n) 0 (dn (aY A)) with
      | none => exact .inl ⟨rfl, rfl⟩
      | some c => exact .inr (.inr rfl)
    · exact .inr (.inl ⟨rfl, rfl⟩)
  · rw [if_neg e, if_neg e]; exact .inl ⟨rfl, rfl⟩
/-- what the call answers: q is -1, 0, 1 -/
def sandA (A : As) (k g n : Nat) (q : Int32) : Int32 := if q = -1 then sandN A k g n else if q = 0 then sandC A k g n else -9
theorem sam_rm {A : As} {τ τ' : Mem} (hM : RM A τ) (h : SaM (aY A) (aD A) τ τ') : RM A τ' := rm_same hM h.1.2.2 h.2.2.2 h.2.2.1

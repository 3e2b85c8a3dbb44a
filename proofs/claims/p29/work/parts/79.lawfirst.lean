/-! ===== the law's first pushes ===== -/
section LJ
variable {L : Nat} {xs0 : Nat → Int32} {y g : Nat → Int32}
theorem dec3 {t : Nat} (h : t < 3) : nI (t + 1) + (-1 : Int32) = nI t := (by decide : ∀ t, t < 3 → nI (t + 1) + (-1 : Int32) = nI t) t h
theorem t_78 (hL : L ≤ 260) : ∀ (t : Nat) (A : As) (l : Nat → Int32) (s3 : Nat → Int64) (fuel n : Nat) (σ : Mem), t ≤ 3 → t < fuel → Lw A y g l (s3 0) → aN A + t ≤ 200 → n + 2 * t + 500000 ≤ 600000 → RX A σ → FL_law_78 L xs0 fuel σ n y g l s3 (nI (4 * db (aY A))) (nI t) = some 1 := by
  intro t
  induction t with
  | zero =>
    intro A l s3 fuel n σ ht hf hw hN hn hX
    obtain ⟨f, rfl⟩ : ∃ f, fuel = f + 1 := ⟨fuel - 1, by omega⟩
    show BL_law_78 L xs0 (FL_law_78 L xs0 f) σ n y g l s3 (nI (4 * db (aY A))) (nI 0) = _
    unfold BL_law_78
    rw [if_pos (show nI 0 ≤ 0 by decide)]
    exact t_191 hL hw (by omega) hX
  | succ t ih =>
    intro A l s3 fuel n σ ht hf hw hN hn hX
    obtain ⟨f, rfl⟩ : ∃ f, fuel = f + 1 := ⟨fuel - 1, by omega⟩
    have hw' := hw
    obtain ⟨hA, hY, hE, h3, hd, hdis⟩ := hw
    show BL_law_78 L xs0 (FL_law_78 L xs0 f) σ n y g l s3 (nI (4 * db (aY A))) (nI (t + 1)) = _
    unfold BL_law_78
    rw [if_neg (nI_nle (show 0 < t + 1 by omega) (by omega))]
    by_cases h0 : db (aY A) = 0
    · rw [if_pos (show nI (4 * db (aY A)) ≤ 0 by rw [h0]; decide)]
      exact t_191 hL hw' (by omega) hX
    · rw [if_neg (nI_nle (show 0 < 4 * db (aY A) by omega) (by omega))]
      obtain ⟨v, hv⟩ := cell_tot L hL xs0 7 (by decide)
      obtain ⟨p, hp, hq⟩ := low_q (v >>> (((3 : Int32) * nI (t + 1)) &&& 31)) (B := 4 * db (aY A)) (by omega) (by omega)
      obtain ⟨o, l', s', c1, c2, c3⟩ := cp_push hA.1 (t0_ok (aY A)) hY hA.2.1 (s := vp_updL zL 0 (s3 0)) (by rw [z0]; exact hE) (z2 _) hp
      rw [show FL_cell L xs0 (7 : Int32) = some v from hv, bn_some, hq, bn_some, c1, bn_some, al_in (by omega), al_in (by omega), rd0 (by decide) (by decide), stB0 (by decide) (by decide), dzI_ok (by decide), dzI_ok (by decide), c2, bn_some]
      have hP := pu_ok hA.1 (T := T0) hA.2.1 (k := p / 4) (d := p % 4) (by omega)
      have b1 := (ho_bits (h := (pp (aY A) T0 (aD A) p).2.2) (fun q hq => (hP.2.2 q hq).2) (boy := 0) (by decide)).1
      cases ha : anyT (aY A) (pp (aY A) T0 (aD A) p).2.1
      · rw [if_neg (show ¬ false = true by decide)]
        show (if (-1 : Int32) < 0 then _ else _) = _
        rw [if_pos (show (-1 : Int32) < 0 by decide), dec3 (by omega), nm_eq]
        exact ih A l s3 f (n + 1 + 1) σ (by omega) (by omega) hw' (by omega) (by omega) hX
      · rw [if_pos rfl]
        show (if hoI (pp (aY A) T0 (aD A) p).2.2 < 0 then _ else _) = _
        obtain ⟨σ', d1, A', d2, d3, d4', d5, d6⟩ := push_x hA hX (k := p / 4) (d := p % 4) (by omega) (by omega) (by omega) ha
        rw [if_neg (show ¬ hoI (pp (aY A) T0 (aD A) p).2.2 < 0 by rw [toInt_lt]; rw [toInt_le] at b1; omega), dzI_ok (by decide), dzI_ok (by decide), m4 (by omega), d4 (by omega), d1, bi_some, dzI_ok (by decide), rd_in (by omega) (by decide)]
        have hl' : l' (p / 4) = lieI ((psh A (p / 4) (p % 4)).1.1 (p / 4)) := by rw [c3.1.1 (p / 4) (by omega), plM_in (by omega)]
        show (if lieI ((psh A (p / 4) (p % 4)).1.1 (p / 4)) = l' (p / 4) then _ else _) = _
        rw [if_pos hl'.symm, rd0 (by decide) (by decide), stB0 (by decide) (by decide), dec3 (by omega), nm_eq, ← d4']
        refine ih A' l' (vp_updL s3 0 (s' 0)) f (n + 1 + 1) σ' (by omega) (by omega) ⟨d2, by rw [d4']; exact hY, ?_, by rw [d4']; exact h3, by rw [d4']; exact hd, ?_⟩ (by omega) (by omega) d3
        · rw [d4', d5, uL_eq]
          exact c3.1
        · rw [d4', d5]
          exact dis_push hA.1 hA.2.1 hdis (by omega) _
end LJ

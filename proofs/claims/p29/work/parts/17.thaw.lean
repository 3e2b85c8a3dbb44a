/-! ===== thaw, copy ===== -/
def tha (P : Nat → Bool) : Nat → Nat → Int32 → Int32
  | _, 0, s => s
  | i, m + 1, s => tha P (i + 1) m (if P i then s ||| ((1 : Int32) <<< (nI i &&& 31)) else s)
def lostP (Y : Yd) (D : Dy) (t k : Nat) : Bool := decide (D.1 k < 36) && decide ((dh Y - min (dh Y) (t / 2)) * dw Y ≤ D.1 k)
theorem i_or0 (s : Int32) : s ||| 0 = s := Int32.toBitVec_inj.mp (by rw [Int32.toBitVec_or]; exact BitVec.or_zero)
theorem lost_iff {h w p t : Nat} (hw : 0 < w) (hp : p < h * w) : (h - min h (t / 2)) * w ≤ p ↔ 2 * (h - p / w) ≤ t := by
  have h1 : p / w < h := (Nat.div_lt_iff_lt_mul hw).mpr hp
  rw [← Nat.le_div_iff_mul_le hw]
  generalize p / w = r at h1 ⊢
  omega
/-! copy -/
def bey (n : Nat) (i m : Int32) : Prop := 0 ≤ i.toInt ∧ 0 ≤ m.toInt ∧ i.toInt + m.toInt ≤ n
theorem bey_d (n : Nat) (i m : Int32) : bey n i m ∨ ¬ bey n i m := Classical.em _
theorem hcs_t {o n : Nat} {σ : Mem} (h : σ.1 o 2 = nI n) (hn : n ≤ 60) {i m : Int32} (hb : bey n i m) : FX5_hasCells o σ i m = some (1, σ) := by
  obtain ⟨b1, b2, b3⟩ := hb
  obtain ⟨i', hi', rfl⟩ := blk2 (n := n) (a := i) (by omega)
  obtain ⟨m', hm', rfl⟩ := blk2 (n := n) (a := m) (by omega)
  rw [nI_toInt (by omega), nI_toInt (by omega)] at b3
  unfold FX5_hasCells
  rw [if_neg (nI_pos (by omega)), if_neg (nI_pos (by omega)), h, if_neg (nI_nlt (by omega) (by omega)), pk_sub (by omega), if_neg (nI_nlt (by omega) (by omega))]
  rfl
theorem hcs_f {o n : Nat} {σ : Mem} (h : σ.1 o 2 = nI n) (hn : n ≤ 60) {i m : Int32} (hb : ¬ bey n i m) : FX5_hasCells o σ i m = some (0, σ) := by
  unfold FX5_hasCells
  have ht : (nI n).toInt = n := nI_toInt (by omega)
  by_cases h1 : i < 0
  · rw [if_pos h1]; rfl
  · rw [if_neg h1]
    rw [toInt_lt] at h1
    change ¬ i.toInt < 0 at h1
    by_cases h2 : m < 0
    · rw [if_pos h2]; rfl
    · rw [if_neg h2, h]
      rw [toInt_lt] at h2
      change ¬ m.toInt < 0 at h2
      by_cases h3 : nI n < i
      · rw [if_pos h3]; rfl
      · rw [if_neg h3]
        rw [toInt_lt, ht] at h3
        obtain ⟨i', hi', rfl⟩ := blk2 (n := n) (a := i) (by omega)
        rw [pk_sub hi', if_pos]
        · rfl
        · rw [toInt_lt, nI_toInt (by omega)]
          rw [nI_toInt (by omega)] at h1 h3
          unfold bey at hb
          rw [nI_toInt (by omega)] at hb
          omega
/-- the row that n cells come to -/
def copS (s t : Sh) (i j n : Nat) : Option Sh := some (t.1, t.2.1, fun q => if j ≤ q ∧ q < j + n then s.2.2 (i + (q - j)) else t.2.2 q)

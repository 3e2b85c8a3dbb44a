/-! ===== L2: what the two memories mean: one abstract yard, its history, its images, its sheets ===== -/
/-- the yard as its text has it: high, wide, how many blocks, what a cell is, a block's kind, its first cell -/
abbrev Yd : Type := Nat × Nat × Nat × (Nat → Nat) × (Nat → Nat) × (Nat → Nat)
def dh (Y : Yd) : Nat := Y.1
def dw (Y : Yd) : Nat := Y.2.1
def db (Y : Yd) : Nat := Y.2.2.1
def dg (Y : Yd) : Nat → Nat := Y.2.2.2.1
def dk (Y : Yd) : Nat → Nat := Y.2.2.2.2.1
def ds (Y : Yd) : Nat → Nat := Y.2.2.2.2.2
def dn (Y : Yd) : Nat := dh Y * dw Y
/-- the yard as it is: where each block is (36 gone, 37, 38 home), which cracks (by cell) are filled -/
abbrev Dy : Type := (Nat → Nat) × (Nat → Bool)
abbrev Sh : Type := Nat × Nat × (Nat → Int32)
def crs (Y : Yd) : List Nat := (List.range (dn Y)).filter (fun c => dg Y c == 3)
def bit64 (y : Int64) (i : Nat) : Bool := y.toBitVec.getLsbD i
/-- a place as the class's long has it -/
def plX (y : Int64) (k : Nat) : Int32 := (((((y).toUInt64 >>> ((((6 : Int32) * nI k)).toInt64.toUInt64 &&& Int64.toUInt64 63)).toInt64) &&& (63 : Int64))).toInt32
def EncX (Y : Yd) (D : Dy) (y : Int64) : Prop := (∀ k, k < db Y → ∀ i, i < 6 → bit64 y (6 * k + i) = (D.1 k).testBit i) ∧ (∀ j, j < (crs Y).length → bit64 y (36 + j) = D.2 ((crs Y).getD j 0)) ∧ (∀ i, 6 * db Y ≤ i → i < 36 → bit64 y i = false) ∧ ∀ i, 36 + (crs Y).length ≤ i → bit64 y i = false
def lieI (p : Nat) : Int32 := if p < 36 then nI p else if p = 36 then -6 else if p = 37 then -20 else -21
def WFD (Y : Yd) (D : Dy) : Prop := ∀ k, k < db Y → D.1 k < dn Y ∨ D.1 k = 36 ∨ D.1 k = 37 ∨ D.1 k = 38
def WFY (Y : Yd) : Prop := ((dh Y = 0 ∧ dw Y = 0 ∧ db Y = 0) ∨ (3 ≤ dh Y ∧ dh Y ≤ 6 ∧ 3 ≤ dw Y ∧ dw Y ≤ 6)) ∧ db Y ≤ 6 ∧ (∀ c, c < dn Y → dg Y c ≤ 5) ∧ (crs Y).length ≤ 4 ∧ (∀ k, k < db Y → dk Y k ≤ 2 ∧ ds Y k < dn Y)
/-- the next cell towards d, none where the yard ends or a wall is -/
def nxt (Y : Yd) (c d : Nat) : Option Nat :=
  let x := c % dw Y
  let y := c / dw Y
  let q := match d with
    | 0 => if 0 < y then some (c - dw Y) else none
    | 1 => if x + 1 < dw Y then some (c + 1) else none
    | 2 => if y + 1 < dh Y then some (c + dw Y) else none
    | _ => if 0 < x then some (c - 1) else none
  q.bind fun c2 => if dg Y c2 = 1 then none else some c2
def wayI (o : Option Nat) : Int32 := match o with
  | none => -1
  | some c => nI c
/-- the abstract state: yard, as it is, how many pushes, what was ahead of each, images, sheets, trace, fault -/
abbrev As : Type := Yd × Dy × Nat × (Nat → Dy) × (Nat → Option Dy) × (Nat → Option Sh) × Int32 × Int32
def aY (A : As) : Yd := A.1
def aD (A : As) : Dy := A.2.1
def aN (A : As) : Nat := A.2.2.1
def aH (A : As) : Nat → Dy := A.2.2.2.1
def aI (A : As) : Nat → Option Dy := A.2.2.2.2.1
def aS (A : As) : Nat → Option Sh := A.2.2.2.2.2.1
def aT (A : As) : Int32 := A.2.2.2.2.2.2.1
def aF (A : As) : Int32 := A.2.2.2.2.2.2.2
def WA (A : As) : Prop := WFY (aY A) ∧ WFD (aY A) (aD A) ∧ aN A ≤ 200 ∧ (∀ q, q < aN A → WFD (aY A) (aH A q)) ∧ (∀ i D, i < 3 → aI A i = some D → WFD (aY A) D) ∧ ∀ k s, k < 4 → aS A k = some s → s.1 ≤ 2 ∧ s.2.1 ≤ 60
/-! the class's side -/
def XS (Y : Yd) (σ : Mem) : Prop := σ.1 1 4 = nI (dh Y) ∧ σ.1 1 5 = nI (dw Y) ∧ σ.1 1 6 = nI (db Y) ∧ σ.1 1 7 = nI (crs Y).length ∧ (∀ j, j < (crs Y).length → σ.1 20 j = nI ((crs Y).getD j 0)) ∧
  (∀ i, bit64 (σ.2 1 8) i = (decide (i < dn Y) && dg Y i == 1)) ∧ (∀ i, bit64 (σ.2 1 9) i = (decide (i < dn Y) && dg Y i == 2)) ∧ (∀ i, bit64 (σ.2 1 10) i = (decide (i < dn Y) && dg Y i == 4)) ∧ (∀ i, bit64 (σ.2 1 11) i = (decide (i < dn Y) && dg Y i == 5)) ∧ (∀ i, bit64 (σ.2 1 12) i = (decide (i < dn Y) && dg Y i == 0)) ∧
  (∀ k, k < db Y → σ.1 18 k = nI (dk Y k)) ∧ (∀ k, k < db Y → σ.1 19 k = nI (ds Y k)) ∧ ∀ c d, c < dn Y → d < 4 → σ.1 21 (4 * c + d) = wayI (nxt Y c d)
def occD (Y : Yd) (D : Dy) (i : Nat) : Bool := decide (i < dn Y) && (List.range (db Y)).any (fun k => D.1 k == i)
def opnD (Y : Yd) (D : Dy) (i : Nat) : Bool := decide (i < dn Y) && dg Y i == 3 && !D.2 i
def XL (Y : Yd) (σ : Mem) : Prop := σ.2 2 5 = 0 ∧ (σ.2 2 2 = -1 ∨ ∃ D : Dy, WFD Y D ∧ EncX Y D (σ.2 2 2) ∧ (∀ k, k < db Y → σ.1 22 k = nI (D.1 k)) ∧ (∀ i, bit64 (σ.2 2 3) i = occD Y D i) ∧ ∀ i, bit64 (σ.2 2 4) i = opnD Y D i)
def XH (Y : Yd) (n : Nat) (h : Nat → Dy) (σ : Mem) : Prop := σ.1 0 10 = nI n ∧ ∀ q, q < n → EncX Y (h q) (σ.2 16 q)
def imX (Y : Yd) (o : Option Dy) (y : Int64) : Prop := match o with
  | none => y = -1
  | some D => EncX Y D y
def XI (Y : Yd) (im : Nat → Option Dy) (σ : Mem) : Prop := ∀ i, i < 3 → imX Y (im i) (σ.2 17 i)
def shX (o c : Nat) (s : Option Sh) (σ : Mem) : Prop := match s with
  | none => σ.1 o 1 = -1 ∧ σ.1 o 2 = 0
  | some s => σ.1 o 1 = nI s.1 ∧ σ.1 o 2 = nI s.2.1 ∧ ∀ i, i < s.2.1 → σ.1 c i = s.2.2 i
def XC (S : Nat → Option Sh) (σ : Mem) : Prop := shX 7 11 (S 0) σ ∧ shX 8 12 (S 1) σ ∧ shX 9 13 (S 2) σ ∧ shX 10 14 (S 3) σ
def RX (A : As) (σ : Mem) : Prop := XS (aY A) σ ∧ EncX (aY A) (aD A) (σ.2 0 9) ∧ XH (aY A) (aN A) (aH A) σ ∧ XI (aY A) (aI A) σ ∧ XC (aS A) σ ∧ XL (aY A) σ ∧ σ.1 0 11 = aT A ∧ σ.1 0 12 = aF A
/-! the reference's side -/
def MS' (Y : Yd) (τ : Mem) : Prop := τ.1 0 1 = nI (dh Y) ∧ τ.1 0 2 = nI (dw Y) ∧ τ.1 0 3 = nI (db Y) ∧ (∀ c, c < dn Y → τ.1 1 c = nI (dg Y c)) ∧ (∀ k, k < db Y → τ.1 2 k = nI (dk Y k)) ∧ ∀ k, k < db Y → τ.1 3 k = nI (ds Y k)
/-- what stands where no block is: 0 ahead of the first yard, GONE behind -/
def pad (Y : Yd) : Nat := if dh Y = 0 then 0 else 36
def plM (Y : Yd) (D : Dy) (k : Nat) : Int32 := lieI (if k < db Y then D.1 k else pad Y)
def filM (Y : Yd) (D : Dy) (i : Nat) : Bool := decide (i < dn Y) && dg Y i == 3 && D.2 i
/-- lies from place p of the int array o on, filled at place i of the long array (or slot) q -/
def EncM (Y : Yd) (D : Dy) (l : Nat → Int32) (f : Int64) : Prop := (∀ k, k < 6 → l k = plM Y D k) ∧ ∀ i, bit64 f i = filM Y D i
def MH (Y : Yd) (n : Nat) (h : Nat → Dy) (τ : Mem) : Prop := τ.1 0 22 = nI n ∧ ∀ q, q < n → EncM Y (h q) (fun k => τ.1 10 (6 * q + k)) (τ.2 11 q)
def imM (Y : Yd) (o : Option Dy) (z : Int32) (l : Nat → Int32) (f : Int64) : Prop := match o with
  | none => z = 0
  | some D => z = 1 ∧ EncM Y D l f
def MI' (Y : Yd) (im : Nat → Option Dy) (τ : Mem) : Prop := ∀ i, i < 3 → imM Y (im i) (τ.1 12 i) (fun k => τ.1 13 (6 * i + k)) (τ.2 14 i)
def shM (k : Nat) (s : Option Sh) (τ : Mem) : Prop := match s with
  | none => τ.1 28 k = -1
  | some s => τ.1 28 k = nI s.2.1 ∧ τ.1 29 k = nI s.1 ∧ ∀ i, i < s.2.1 → τ.1 30 (60 * k + i) = s.2.2 i
def MC (S : Nat → Option Sh) (τ : Mem) : Prop := ∀ k, k < 4 → shM k (S k) τ
def RM (A : As) (τ : Mem) : Prop := MS' (aY A) τ ∧ EncM (aY A) (aD A) (τ.1 4) (τ.2 0 8) ∧ MH (aY A) (aN A) (aH A) τ ∧ MI' (aY A) (aI A) τ ∧ MC (aS A) τ ∧ τ.2 0 17 = 0 ∧ τ.1 0 51 = aT A ∧ τ.1 0 0 = aF A
def RelW (σ τ : Mem) : Prop := ∃ A : As, WA A ∧ RX A σ ∧ RM A τ
/-! small facts -/
theorem bi_some {α R : Type} (a : α) (σ : Mem) (f : α → Mem → Option R) : bi (some (a, σ)) f = f a σ := rfl
theorem bv_some {R : Type} (σ : Mem) (f : Mem → Option R) : bv (some σ) f = f σ := rfl
theorem nm_eq {α β : Type} (e : α) (f : α → β) : nm e f = f e := rfl
theorem nI_lit (n : Nat) : nI n = Int32.ofNat n := rfl
theorem toInt_lt {a b : Int32} : a < b ↔ a.toInt < b.toInt := Int32.lt_iff_toInt_lt
theorem toInt_le {a b : Int32} : a ≤ b ↔ a.toInt ≤ b.toInt := Int32.le_iff_toInt_le
theorem toInt_lt64 {a b : Int64} : a < b ↔ a.toInt < b.toInt := Int64.lt_iff_toInt_lt
theorem toInt_le64 {a b : Int64} : a ≤ b ↔ a.toInt ≤ b.toInt := Int64.le_iff_toInt_le
theorem rd_in {R : Type} {j n : Nat} (h : j < n) (hn : n < 2 ^ 31) (f : Nat → Option R) : rd (nI j) n f = f j := by
  unfold rd
  rw [if_neg (nI_in h hn), nI_clamp (by omega)]
theorem lg_lt {x y : Int64} : lg_cmp x y < 0 ↔ x.toInt < y.toInt := by
  rw [← toInt_lt64]
  unfold lg_cmp
  by_cases h1 : y < x
  · rw [if_pos h1]
    refine ⟨fun h => absurd h (by decide), fun h => ?_⟩
    rw [toInt_lt64] at h h1; omega
  · rw [if_neg h1]
    by_cases h2 : x = y
    · rw [if_pos h2]
      refine ⟨fun h => absurd h (by decide), fun h => ?_⟩
      rw [toInt_lt64, h2] at h; omega
    · rw [if_neg h2]
      refine ⟨fun _ => ?_, fun _ => by decide⟩
      rw [toInt_lt64] at h1 ⊢
      have : x.toInt ≠ y.toInt := fun q => h2 (Int64.toInt_inj.mp q)
      omega
theorem lg_gt {x y : Int64} : 0 < lg_cmp x y ↔ y.toInt < x.toInt := by
  rw [← toInt_lt64]
  unfold lg_cmp
  by_cases h1 : y < x
  · rw [if_pos h1]; exact ⟨fun _ => h1, fun _ => by decide⟩
  · rw [if_neg h1]
    refine ⟨fun h => ?_, fun h => absurd h h1⟩
    by_cases h2 : x = y
    · rw [if_pos h2] at h; exact absurd h (by decide)
    · rw [if_neg h2] at h; exact absurd h (by decide)
theorem lg_eq {x y : Int64} : lg_cmp x y = 0 ↔ x = y := by
  unfold lg_cmp
  by_cases h1 : y < x
  · rw [if_pos h1]
    refine ⟨fun h => absurd h (by decide), fun h => ?_⟩
    rw [h, toInt_lt64] at h1; omega
  · rw [if_neg h1]
    by_cases h2 : x = y
    · rw [if_pos h2]; exact ⟨fun _ => h2, fun _ => rfl⟩
    · rw [if_neg h2]; exact ⟨fun h => absurd h (by decide), fun h => absurd h h2⟩
def b01 (p : Prop) [Decidable p] : Int32 := if p then 1 else 0
theorem rz_b01 (p : Prop) {dp : Decidable p} (σ : Mem) : rz (if p then (1 : Int32) else 0) σ = some ((if p then (1 : Int32) else 0), σ) := by
  unfold rz
  by_cases h : p <;> simp [h]
theorem i64_toInt (x : Int32) : (x.toInt64).toInt = x.toInt := Int32.toInt_toInt64 x
theorem rng32 (x : Int32) : -2147483648 ≤ x.toInt ∧ x.toInt < 2147483648 := ⟨Int32.le_toInt x, Int32.toInt_lt x⟩
theorem lit32 (n : Nat) (h : n < 2 ^ 31) : (Int32.ofNat n).toInt = n := nI_toInt h
theorem sub1_64 {n : Nat} (h : n < 2 ^ 31) : (((nI n).toInt64) - (1 : Int64)).toInt = (n : Int) - 1 := by
  rw [nI_l h]
  rw [show (1 : Int64) = lN 1 from rfl, Int64.toInt_sub, lN_toInt h, lN_toInt (by decide)]
  exact Int.bmod_eq_of_le (by omega) (by omega)
theorem hab_eq {Y : Yd} {σ : Mem} (hb : σ.1 1 6 = nI (db Y)) (h6 : db Y ≤ 6) (a : Int32) : FX1_hasBlock σ a = some ((if 0 ≤ a.toInt ∧ a.toInt < db Y then (1 : Int32) else 0), σ) := by
  unfold FX1_hasBlock
  have hz : (0 : Int32).toInt = 0 := rfl
  have h6' : (6 : Int32).toInt = 6 := rfl
  have hn : (nI (db Y)).toInt = db Y := nI_toInt (by omega)
  rw [hb]
  by_cases h1 : a < 0
  · rw [if_pos h1, if_neg (by rw [toInt_lt, hz] at h1; omega)]; rfl
  · rw [if_neg h1]
    by_cases h2 : nI (db Y) ≤ a
    · rw [if_pos h2, if_neg (by rw [toInt_le, hn] at h2; omega)]; rfl
    · rw [if_neg h2]
      rw [toInt_lt, hz] at h1
      rw [toInt_le, hn] at h2
      rw [if_neg (by rw [toInt_le, h6']; omega), if_pos (by omega)]; rfl
theorem blk {a : Int32} {n : Nat} (h : 0 ≤ a.toInt ∧ a.toInt < n) : ∃ k, k < n ∧ a = nI k := by
  obtain ⟨j, hj⟩ := Int.eq_ofNat_of_zero_le h.1
  have hr := rng32 a
  exact ⟨j, by omega, Int32.toInt_inj.mp (by rw [nI_toInt (by omega)]; omega)⟩
theorem kin_eq {Y : Yd} {σ : Mem} (hS : XS Y σ) (h6 : db Y ≤ 6) {k : Nat} (hk : k < db Y) : FX1_kindOf σ (nI k) = some (nI (dk Y k), σ) := by
  unfold FX1_kindOf
  have ht : (nI k).toInt = k := nI_toInt (by omega)
  rw [hab_eq hS.2.2.1 h6, if_pos (by omega)]
  rw [bi_some, if_neg (by decide), rd_in (by omega) (by omega), hS.2.2.2.2.2.2.2.2.2.2.1 k hk]

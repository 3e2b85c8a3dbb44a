/-! ===== at, ofBlock, thaw ===== -/
theorem has_t {σ : Mem} (y : Int64) {n : Nat} (hn : n < 64) (h : bit64 y n = true) : FX8_has σ y (nI n) = some (1, σ) := by rw [has_eq σ y hn, h]; rfl
theorem has_f {σ : Mem} (y : Int64) {n : Nat} (hn : n < 64) (h : bit64 y n = false) : FX8_has σ y (nI n) = some (0, σ) := by rw [has_eq σ y hn, h]; rfl
def blkN (D : Dy) (c : Nat) : Nat → Nat → Option Nat
  | _, 0 => none
  | i, m + 1 => if D.1 i = c then some i else blkN D c (i + 1) m
/-- the block that lies in a cell -/
def blkD (Y : Yd) (D : Dy) (c : Nat) : Option Nat := blkN D c 0 (db Y)
def blkI (o : Option Nat) : Int32 := match o with
  | none => -9
  | some k => nI k
/-- what a cell is; T: sand on trial -/
def whatD (Y : Yd) (T : Nat → Bool) (D : Dy) (c : Nat) : Nat := if T c then 2 else if dg Y c = 3 ∧ D.2 c = true then 0 else dg Y c
theorem blkN_some {D : Dy} {c : Nat} : ∀ {m i k : Nat}, blkN D c i m = some k → i ≤ k ∧ k < i + m ∧ D.1 k = c := by
  intro m
  induction m with
  | zero => intro i k h; exact absurd h (by simp [blkN])
  | succ m ih =>
    intro i k h
    unfold blkN at h
    by_cases e : D.1 i = c
    · rw [if_pos e] at h; cases h; exact ⟨Nat.le_refl _, by omega, e⟩
    · rw [if_neg e] at h; have := ih h; exact ⟨by omega, by omega, this.2.2⟩
theorem blkN_none {D : Dy} {c : Nat} : ∀ {m i : Nat}, blkN D c i m = none → ∀ k, i ≤ k → k < i + m → D.1 k ≠ c := by
  intro m
  induction m with
  | zero => intro i _ k h1 h2; omega
  | succ m ih =>
    intro i h k h1 h2
    unfold blkN at h
    by_cases e : D.1 i = c
    · rw [if_pos e] at h; cases h
    · rw [if_neg e] at h
      by_cases e2 : k = i
      · rw [e2]; exact e
      · exact ih h k (by omega) (by omega)
theorem blkN_cong {D D' : Dy} {c : Nat} : ∀ {m i : Nat}, (∀ k, i ≤ k → k < i + m → (D.1 k = c ↔ D'.1 k = c)) → blkN D c i m = blkN D' c i m := by
  intro m
  induction m with
  | zero => intro i _; rfl
  | succ m ih =>
    intro i h
    unfold blkN
    by_cases e : D.1 i = c
    · rw [if_pos e, if_pos ((h i (Nat.le_refl _) (by omega)).mp e)]
    · rw [if_neg e, if_neg (fun q => e ((h i (Nat.le_refl _) (by omega)).mpr q))]
      exact ih fun k h1 h2 => h k (by omega) (by omega)
theorem blkD_lt {Y : Yd} {D : Dy} {c k : Nat} (h : blkD Y D c = some k) : k < db Y ∧ D.1 k = c := by
  have := blkN_some h
  exact ⟨by omega, this.2.2⟩
theorem blkD_none {Y : Yd} {D : Dy} {c : Nat} (h : blkD Y D c = none) {k : Nat} (hk : k < db Y) : D.1 k ≠ c := blkN_none h k (Nat.zero_le _) (by omega)
theorem lie_eq {p c : Nat} (hp : p < 39) (hc : c < 36) : lieI p = nI c ↔ p = c :=
  (by decide +kernel : ∀ p, p < 39 → ∀ c, c < 36 → (lieI p = nI c ↔ p = c)) p hp c hc
theorem lie_neg {p : Nat} (hp : p < 39) : (lieI p < 0 ↔ 36 ≤ p) ∧ (0 ≤ lieI p ↔ p < 36) :=
  (by decide +kernel : ∀ p, p < 39 → (lieI p < 0 ↔ 36 ≤ p) ∧ (0 ≤ lieI p ↔ p < 36)) p hp
theorem lie_in {p : Nat} (hp : p < 36) : lieI p = nI p := by unfold lieI; rw [if_pos hp]
theorem plM_in {Y : Yd} {D : Dy} {k : Nat} (hk : k < db Y) : plM Y D k = lieI (D.1 k) := by unfold plM; rw [if_pos hk]
theorem bin_loop {Y : Yd} (hY : WFY Y) {D : Dy} (hD : WFD Y D) {τ : Mem} (hb : τ.1 0 3 = nI (db Y)) (hl : ∀ k, k < db Y → τ.1 4 k = lieI (D.1 k)) {c : Nat} (hc : c < 36) : ∀ (m i fuel : Nat), i + m = db Y → m < fuel → FX9_blockIn_2 fuel τ (nI c) (nI i) = some (blkI (blkN D c i m), τ) := by
  have h6 := hY.2.1
  intro m
  induction m with
  | zero =>
    intro i fuel hi hf
    obtain ⟨f, rfl⟩ : ∃ f, fuel = f + 1 := ⟨fuel - 1, by omega⟩
    show BX9_blockIn_2 (FX9_blockIn_2 f) τ (nI c) (nI i) = _
    unfold BX9_blockIn_2
    rw [hb, if_pos (nI_le (by omega) (by omega))]
    rfl
  | succ m ih =>
    intro i fuel hi hf
    obtain ⟨f, rfl⟩ : ∃ f, fuel = f + 1 := ⟨fuel - 1, by omega⟩
    show BX9_blockIn_2 (FX9_blockIn_2 f) τ (nI c) (nI i) = _
    unfold BX9_blockIn_2 blkN
    have hlt := wfd_lt hY hD (show i < db Y by omega)
    rw [hb, if_neg (nI_ge (by omega) (by omega)), rd_in (by omega) (by decide), hl i (by omega)]
    by_cases e : D.1 i = c
    · rw [if_pos ((lie_eq hlt hc).mpr e), if_pos e]; rfl
    · rw [if_neg (fun q => e ((lie_eq hlt hc).mp q)), if_neg e, nm_eq, nI_1, ih (i + 1) f (by omega) (by omega)]
theorem bin_eq {Y : Yd} (hY : WFY Y) {D : Dy} (hD : WFD Y D) {τ : Mem} (hb : τ.1 0 3 = nI (db Y)) (hl : ∀ k, k < db Y → τ.1 4 k = lieI (D.1 k)) {c : Nat} (hc : c < 36) : FX9_blockIn τ (nI c) = some (blkI (blkD Y D c), τ) := by
  have h6 := hY.2.1
  exact bin_loop hY hD hb hl hc (db Y) 0 FU (Nat.zero_add _) (by show _ < 10000000; omega)
theorem wha_eq {Y : Yd} (hY : WFY Y) {D : Dy} {T : Nat → Bool} {τ : Mem} (hg : ∀ c, c < dn Y → τ.1 1 c = nI (dg Y c)) (hf : ∀ i, bit64 (τ.2 0 8) i = filM Y D i) (hT : ∀ i, bit64 (τ.2 0 17) i = T i) {c : Nat} (hc : c < dn Y) : FX9_whatIs τ (nI c) = some (nI (whatD Y T D c), τ) := by
  have h36 := dn_le hY
  have h5 := hY.2.2.1 c hc
  unfold FX9_whatIs whatD
  cases ht : T c
  · rw [if_neg (fun q => by rw [hs1_1 _ (by omega), hT, ht] at q; cases q), rd_in (by omega) (by decide), hg c hc]
    rw [if_neg (show ¬ false = true by decide)]
    by_cases h3 : dg Y c = 3
    · rw [h3, if_pos (show nI 3 = (3 : Int32) from rfl)]
      cases hF : D.2 c
      · rw [if_neg (fun q => by rw [hs1_1 _ (by omega), hf] at q; unfold filM at q; rw [hF, Bool.and_false] at q; cases q), rd_in (by omega) (by decide), hg c hc, h3, if_neg (by simp)]
      · rw [if_pos (by rw [hs1_1 _ (by omega), hf]; unfold filM; rw [hF, h3]; simp [hc]), if_pos ⟨rfl, rfl⟩]; rfl
    · rw [if_neg (show ¬ nI (dg Y c) = (3 : Int32) from fun q => h3 ((nI_eq (b := 3) (by omega) (by omega)).mp q)), rd_in (by omega) (by decide), hg c hc, if_neg (fun q => h3 q.1)]
  · rw [if_pos (by rw [hs1_1 _ (by omega), hT, ht]), if_pos rfl]; rfl
theorem sig_eq {Y : Yd} (hY : WFY Y) {D : Dy} {σ : Mem} (hS : XS Y σ) {y : Int64} (h : EncX Y D y) {c : Nat} (hc : c < dn Y) : FX1_signAt σ (nI c) y = some (nI (whatD Y (fun _ => false) D c), σ) := by
  have h36 := dn_le hY
  have h5 := hY.2.2.1 c hc
  obtain ⟨o, ho, hb⟩ := opn_eq hY hS h
  have hw := hS.2.2.2.2.2.1 c
  have hs := hS.2.2.2.2.2.2.1 c
  have h0 := hS.2.2.2.2.2.2.2.1 c
  have h1 := hS.2.2.2.2.2.2.2.2.1 c
  have hbc := hb c
  unfold opnD at hbc
  rw [decide_eq_true hc, Bool.true_and] at hw hs h0 h1 hbc
  unfold FX1_signAt whatD
  rw [if_neg (show ¬ false = true by decide)]
  rcases (show dg Y c = 0 ∨ dg Y c = 1 ∨ dg Y c = 2 ∨ dg Y c = 3 ∨ dg Y c = 4 ∨ dg Y c = 5 by omega) with e | e | e | e | e | e
  · rw [e] at hw hs h0 h1 hbc
    rw [e, has_f _ (by omega) (hw.trans rfl), bi_some, if_pos rfl, has_f _ (by omega) (hs.trans rfl), bi_some, if_pos rfl, ho, bi_some, has_f _ (by omega) (hbc.trans rfl), bi_some, if_pos rfl, has_f _ (by omega) (h0.trans rfl), bi_some, if_pos rfl, has_f _ (by omega) (h1.trans rfl), bi_some, if_pos rfl]
    rfl
  · rw [e] at hw
    rw [e, has_t _ (by omega) (hw.trans rfl), bi_some, if_neg (by decide)]
    rfl
  · rw [e] at hw hs
    rw [e, has_f _ (by omega) (hw.trans rfl), bi_some, if_pos rfl, has_t _ (by omega) (hs.trans rfl), bi_some, if_neg (by decide)]
    rfl
  · rw [e] at hw hs h0 h1 hbc
    rw [e, has_f _ (by omega) (hw.trans rfl), bi_some, if_pos rfl, has_f _ (by omega) (hs.trans rfl), bi_some, if_pos rfl, ho, bi_some]
    cases hF : D.2 c
    · rw [has_t _ (by omega) (hbc.trans (by rw [hF]; rfl)), bi_some, if_neg (by decide), if_neg (by simp)]
      rfl
    · rw [has_f _ (by omega) (hbc.trans (by rw [hF]; rfl)), bi_some, if_pos rfl, has_f _ (by omega) (h0.trans rfl), bi_some, if_pos rfl, has_f _ (by omega) (h1.trans rfl), bi_some, if_pos rfl, if_pos ⟨rfl, rfl⟩]
      rfl
  · rw [e] at hw hs h0 h1 hbc
    rw [e, has_f _ (by omega) (hw.trans rfl), bi_some, if_pos rfl, has_f _ (by omega) (hs.trans rfl), bi_some, if_pos rfl, ho, bi_some, has_f _ (by omega) (hbc.trans rfl), bi_some, if_pos rfl, has_t _ (by omega) (h0.trans rfl), bi_some, if_neg (by decide)]
    rfl
  · rw [e] at hw hs h0 h1 hbc
    rw [e, has_f _ (by omega) (hw.trans rfl), bi_some, if_pos rfl, has_f _ (by omega) (hs.trans rfl), bi_some, if_pos rfl, ho, bi_some, has_f _ (by omega) (hbc.trans rfl), bi_some, if_pos rfl, has_f _ (by omega) (h0.trans rfl), bi_some, if_pos rfl, has_t _ (by omega) (h1.trans rfl), bi_some, if_neg (by decide)]
    rfl
theorem at_loop {Y : Yd} (hY : WFY Y) {D : Dy} (hD : WFD Y D) {σ : Mem} (hS : XS Y σ) (h : EncX Y D (σ.2 0 9)) {c : Nat} (hc : c < dn Y) : ∀ (m i fuel : Nat), i + m = db Y → m < fuel → FX8_at_19 fuel σ (nI c) (nI i) = some (match blkN D c i m with | some k => 10 + nI k | none => nI (whatD Y (fun _ => false) D c), σ) := by
  have h6 := hY.2.1
  have h36 := dn_le hY
  intro m
  induction m with
  | zero =>
    intro i fuel hi hf
    obtain ⟨f, rfl⟩ : ∃ f, fuel = f + 1 := ⟨fuel - 1, by omega⟩
    show BX8_at_19 (FX8_at_19 f) σ (nI c) (nI i) = _
    unfold BX8_at_19
    rw [hS.2.2.1, if_pos (nI_le (by omega) (by omega)), sig_eq hY hS h hc]
    rfl
  | succ m ih =>
    intro i fuel hi hf
    obtain ⟨f, rfl⟩ : ∃ f, fuel = f + 1 := ⟨fuel - 1, by omega⟩
    show BX8_at_19 (FX8_at_19 f) σ (nI c) (nI i) = _
    unfold BX8_at_19 blkN
    have hlt := wfd_lt hY hD (show i < db Y by omega)
    rw [hS.2.2.1, if_neg (nI_ge (by omega) (by omega)), pof_eq hY hD h (by omega), bi_some]
    by_cases e : D.1 i = c
    · rw [if_pos (by rw [e]), if_pos e]
    · rw [if_neg (fun q => e ((nI_eq (by omega) (by omega)).mp q)), if_neg e, nm_eq, nI_1, ih (i + 1) f (by omega) (by omega)]
theorem cem_eq {Y : Yd} {τ : Mem} (h : MS' Y τ) : FX9_cells τ = some (nI (dn Y), τ) := by
  unfold FX9_cells
  rw [h.1, h.2.1, pk_mul]
  rfl
theorem rm_l {A : As} {τ : Mem} (h : RM A τ) (h6 : db (aY A) ≤ 6) : ∀ k, k < db (aY A) → τ.1 4 k = lieI ((aD A).1 k) := fun k hk => by
  rw [h.2.1.1 k (by omega), plM_in hk]
theorem sim_at : Sim_at RelW := by
  intro σ τ a h
  obtain ⟨A, hA, hX, hM⟩ := id h
  have h6 := hA.1.2.1
  have h36 := dn_le hA.1
  have hdt : (nI (dn (aY A))).toInt = dn (aY A) := nI_toInt (by omega)
  by_cases hc : 0 ≤ a.toInt ∧ a.toInt < dn (aY A)
  · obtain ⟨c, hcn, rfl⟩ := blk hc
    refine ⟨match blkD (aY A) (aD A) c with | some k => 10 + nI k | none => nI (whatD (aY A) (fun _ => false) (aD A) c), σ, τ, ?_, ?_, h⟩
    · unfold FX8_at
      rw [if_neg (nI_pos (by omega)), cel_eq hX.1, bi_some, if_pos (nI_lt hcn (by omega))]
      exact at_loop hA.1 hA.2.1 hX.1 hX.2.1 hcn (db (aY A)) 0 FU (Nat.zero_add _) (by show _ < 10000000; omega)
    · unfold FX9_at
      rw [cem_eq hM.1, bi_some, in_eq, sub1_64 (by omega), i64_toInt, show (0 : Int64).toInt = 0 from rfl, if_pos (by omega), bi_some, if_neg (show ¬ (1 : Int32) = 0 by decide), bin_eq hA.1 hA.2.1 hM.1.2.2.1 (rm_l hM h6) (by omega), bi_some]
      cases hb : blkD (aY A) (aD A) c with
      | none =>
        rw [if_neg (show ¬ 0 ≤ blkI none by decide), wha_eq hA.1 (T := fun _ => false) hM.1.2.2.2.1 hM.2.1.2 (fun i => by rw [hM.2.2.2.2.2.1, w_0]) hcn]
        rfl
      | some k =>
        have := (blkD_lt hb).1
        rw [if_pos (show 0 ≤ blkI (some k) from nI_pos' (by omega))]
        rfl
  · refine ⟨-1, σ, τ, ?_, ?_, h⟩
    · unfold FX8_at
      by_cases h1 : a < 0
      · rw [if_pos h1]
      · rw [if_neg h1, cel_eq hX.1, bi_some, if_neg (by rw [toInt_lt] at h1 ⊢; rw [hdt]; change ¬ a.toInt < 0 at h1; omega)]
    · unfold FX9_at
      rw [cem_eq hM.1, bi_some, in_eq, sub1_64 (by omega), i64_toInt, show (0 : Int64).toInt = 0 from rfl, if_neg (by omega), bi_some, if_pos rfl]
theorem sim_ofBlock : Sim_ofBlock RelW := by
  intro σ τ a w h
  obtain ⟨A, hA, hX, hM⟩ := id h
  have h6 := hA.1.2.1
  unfold FX8_ofBlock FX9_ofBlock
  rw [hab_eq hX.1.2.2.1 h6, nob_eq hM.1.2.2.1 h6, bi_some, bi_some]
  by_cases hk : 0 ≤ a.toInt ∧ a.toInt < db (aY A)
  · obtain ⟨k, hkb, rfl⟩ := blk hk
    rw [if_pos hk, if_pos hk, if_neg (show ¬ (1 : Int32) = 0 by decide), if_pos rfl]
    by_cases h0 : w = 0
    · rw [if_pos h0, if_pos h0, kin_eq hX.1 h6 hkb, bi_some, rd_in (by omega) (by decide), hM.1.2.2.2.2.1 k hkb]
      exact ⟨_, _, _, rfl, rfl, h⟩
    · rw [if_neg h0, if_neg h0]
      by_cases h1 : w = 1
      · rw [if_pos h1, if_pos h1, whi_eq hA.1 hA.2.1 hX.2.1 hkb, bi_some, rd_in (by omega) (by decide), rm_l hM h6 k hkb]
        exact ⟨_, _, _, rfl, rfl, h⟩
      · rw [if_neg h1, if_neg h1]
        exact ⟨_, _, _, rfl, rfl, h⟩
  · rw [if_neg hk, if_neg hk, if_pos rfl, if_neg (show ¬ (1 : Int32) = 0 by decide)]
    exact ⟨_, _, _, rfl, rfl, h⟩

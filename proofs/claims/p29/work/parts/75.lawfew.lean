/-! ===== the law's own search: all rows of one, two, three pushes ===== -/
def okW (Y : Yd) (D : Dy) : List Nat → Prop
  | [] => True
  | p :: w => okW Y D w ∧ p < 4 * db Y ∧ gsF Y (stW Y D w) p = true
def acW (Y : Yd) (g : Nat) (D : Dy) : List Nat → Prop
  | [] => False
  | p :: w => okW Y D w ∧ p < 4 * db Y ∧ gsF Y (stW Y D w) p = true ∧ hgt (pp Y T0 (stW Y D w) p) = some g
def wdW (B : Nat) : Nat → Nat → List Nat
  | 0, _ => []
  | n + 1, z => z % B :: wdW B n (z / B)
def valW (B : Nat) : List Nat → Nat
  | [] => 0
  | p :: w => B * valW B w + p
theorem ok_wf {Y : Yd} (hY : WFY Y) {D : Dy} (hW : WFD Y D) : ∀ w, okW Y D w → WFD Y (stW Y D w) := by
  intro w
  induction w with
  | nil => intro _; exact hW
  | cons p w ih =>
    intro h
    exact (pu_ok hY (T := T0) (ih h.1) (k := p / 4) (d := p % 4) (by have := h.2.1; omega)).1
theorem ac_ok {Y : Yd} {g : Nat} {D : Dy} : ∀ w, acW Y g D w → okW Y D w := by
  intro w h
  cases w with
  | nil => exact h.elim
  | cons p w => exact ⟨h.1, h.2.1, h.2.2.1⟩
theorem ok_lt {Y : Yd} {D : Dy} : ∀ w, okW Y D w → ∀ x ∈ w, x < 4 * db Y := by
  intro w
  induction w with
  | nil => intro _ x hx; cases hx
  | cons p w ih =>
    intro h x hx
    rcases List.mem_cons.mp hx with z | z
    · rw [z]; exact h.2.1
    · exact ih h.1 x z
theorem nd_ok {Y : Yd} {g : Nat} {D : Dy} : ∀ w, ndW Y g D w → okW Y D w := by
  intro w
  induction w with
  | nil => intro _; trivial
  | cons p w ih => intro h; exact ⟨ih h.1, h.2.1, h.2.2.1⟩
theorem hi_ac {Y : Yd} {g : Nat} {D : Dy} : ∀ w, hiW Y g D w → acW Y g D w := by
  intro w h
  cases w with
  | nil => exact h.elim
  | cons p w => exact ⟨nd_ok w h.1, h.2.1, h.2.2.1, h.2.2.2⟩
theorem ok_nd {Y : Yd} {g : Nat} {D : Dy} : ∀ w, okW Y D w → (∀ v, v.length ≤ w.length → ¬ acW Y g D v) → ndW Y g D w := by
  intro w
  induction w with
  | nil => intro _ _; trivial
  | cons p w ih =>
    intro h hn
    exact ⟨ih h.1 fun v hv => hn v (Nat.le_trans hv (Nat.le_succ _)), h.2.1, h.2.2, fun z => hn (p :: w) (Nat.le_refl _) ⟨h.1, h.2.1, h.2.2, z⟩⟩
theorem ac_hi {Y : Yd} {g : Nat} {D : Dy} {w : List Nat} (h : acW Y g D w) (hn : ∀ v, v.length < w.length → ¬ acW Y g D v) : hiW Y g D w := by
  cases w with
  | nil => exact h.elim
  | cons p w => exact ⟨ok_nd w h.1 fun v hv => hn v (Nat.lt_succ_of_le hv), h.2.1, h.2.2.1, h.2.2.2⟩
theorem wd_val {B : Nat} : ∀ v : List Nat, (∀ x ∈ v, x < B) → wdW B v.length (valW B v) = v ∧ valW B v < B ^ v.length := by
  intro v
  induction v with
  | nil => intro _; exact ⟨rfl, by show 0 < B ^ 0; rw [Nat.pow_zero]; decide⟩
  | cons p v ih =>
    intro h
    obtain ⟨a, b⟩ := ih fun x hx => h x (List.mem_cons_of_mem _ hx)
    have hp := h p (List.mem_cons_self ..)
    rw [List.length_cons]
    constructor
    · show (B * valW B v + p) % B :: wdW B v.length ((B * valW B v + p) / B) = p :: v
      rw [Nat.mul_add_mod, Nat.mod_eq_of_lt hp, Nat.mul_add_div (by omega), Nat.div_eq_of_lt hp, Nat.add_zero, a]
    · show B * valW B v + p < B ^ (v.length + 1)
      have := Nat.mul_le_mul_left B (show valW B v + 1 ≤ B ^ v.length from b)
      rw [Nat.mul_succ] at this
      rw [Nat.pow_succ, Nat.mul_comm (B ^ v.length) B]
      omega
theorem wd_lt {B : Nat} (hB : 0 < B) : ∀ (n z : Nat), ∀ x ∈ wdW B n z, x < B := by
  intro n
  induction n with
  | zero => intro z x hx; cases hx
  | succ n ih =>
    intro z x hx
    rcases List.mem_cons.mp hx with q | q
    · rw [q]; exact Nat.mod_lt _ hB
    · exact ih _ x q
theorem wd_len (B : Nat) : ∀ (n z : Nat), (wdW B n z).length = n := by
  intro n
  induction n with
  | zero => intro z; rfl
  | succ n ih => intro z; show (wdW B n (z / B)).length + 1 = n + 1; rw [ih]
theorem key_wd {B : Nat} : ∀ (n z : Nat), z < B ^ n → keyW B (wdW B n z) = z + offW B n := by
  intro n
  induction n with
  | zero => intro z hz; rw [Nat.pow_zero] at hz; rw [show z = 0 by omega]; rfl
  | succ n ih =>
    intro z hz
    rw [Nat.pow_succ, Nat.mul_comm] at hz
    have h := ih (z / B) (Nat.div_lt_of_lt_mul hz)
    have hm := Nat.div_add_mod z B
    show B * keyW B (wdW B n (z / B)) + z % B + 1 = z + (B * offW B n + 1)
    rw [h, Nat.mul_add]
    omega
theorem ok_wd {Y : Yd} {D : Dy} {B i : Nat} : ∀ (m z : Nat), okW Y D (wdW B (i + m) z) → okW Y D (wdW B i (z / B ^ m)) := by
  intro m
  induction m with
  | zero => intro z h; rw [Nat.pow_zero, Nat.div_one]; exact h
  | succ m ih =>
    intro z h
    have := ih (z / B) h.1
    rw [Nat.div_div_eq_div_mul] at this
    rw [Nat.pow_succ, Nat.mul_comm]
    exact this
theorem pw3 {B n : Nat} (hB : B ≤ 12) (hn : n ≤ 3) : B ^ n ≤ 1728 := by
  refine Nat.le_trans (Nat.pow_le_pow_left hB n) ?_
  exact (by decide : ∀ n, n ≤ 3 → 12 ^ n ≤ 1728) n hn
theorem nI_mul (a b : Nat) : nI a * nI b = nI (a * b) := (Int32.ofNat_mul a b).symm
section LF
variable {L : Nat} {xs0 : Nat → Int32} {A : As} {y g l : Nat → Int32} {s3 : Nat → Int64}
abbrev RM7 : Type := Mem → Nat → (Nat → Int32) → (Nat → Int32) → (Nat → Int32) → (Nat → Int64) → Int32 → Int32 → Int32 → Int32 → Int32 → Int32 → Int32 → Option (Int32)
/-- a row is gone through -/
theorem t_288 (hw : Lw A y g l (s3 0)) {boy : Nat} (hb : boy < 2) (rl191 : RB) (rl210 : RN) (rl231 : RM7) (σ : Mem) (n : Nat) (x8 x9 x10 : Int32) {len z : Nat} (hlen : len ≤ 3) (hz : z < 2000) (hB : 0 < 4 * db (aY A)) : ∀ (m i fuel : Nat) (A4 : Nat → Int32) (A5 : Nat → Int64) (x15 x16 : Int32), i + m = len → m + 1 < fuel → okW (aY A) (aD A) (wdW (4 * db (aY A)) i (z / (4 * db (aY A)) ^ m)) → EncM (aY A) (stW (aY A) (aD A) (wdW (4 * db (aY A)) i (z / (4 * db (aY A)) ^ m))) A4 (A5 0) → (∀ j, bit64 (A5 2) j = T0 j) → (m = 0 ∨ x15 = nI ((4 * db (aY A)) ^ (m - 1))) → (x16 = 0 ∧ ¬ acW (aY A) boy (aD A) (wdW (4 * db (aY A)) i (z / (4 * db (aY A)) ^ m)) ∨ x16 = 1 ∧ acW (aY A) boy (aD A) (wdW (4 * db (aY A)) i (z / (4 * db (aY A)) ^ m))) → (acW (aY A) boy (aD A) (wdW (4 * db (aY A)) len z) ∧ FL_law_288 L xs0 rl191 rl210 rl231 fuel σ n y g l s3 A4 A5 (nI (4 * db (aY A))) (nI boy) x8 x9 x10 (nI len) (nI z) x15 x16 1 (nI i) = rl231 σ n y g l s3 (nI (4 * db (aY A))) (nI boy) (nI len) (nI z) x10 (nI len) (nI (z + 1))) ∨ (¬ acW (aY A) boy (aD A) (wdW (4 * db (aY A)) len z) ∧ FL_law_288 L xs0 rl191 rl210 rl231 fuel σ n y g l s3 A4 A5 (nI (4 * db (aY A))) (nI boy) x8 x9 x10 (nI len) (nI z) x15 x16 1 (nI i) = rl231 σ n y g l s3 (nI (4 * db (aY A))) (nI boy) x8 x9 x10 (nI len) (nI (z + 1))) := by
  obtain ⟨hA, hY, hE, h3, hd, hdis⟩ := hw
  have h12 : 4 * db (aY A) ≤ 12 := by omega
  intro m
  induction m with
  | zero =>
    intro i fuel A4 A5 x15 x16 hi hf hok hE4 hT hx15 hx16
    obtain ⟨f, rfl⟩ : ∃ f, fuel = f + 1 := ⟨fuel - 1, by omega⟩
    rw [Nat.pow_zero, Nat.div_one, show i = len by omega] at hx16
    have un : FL_law_288 L xs0 rl191 rl210 rl231 (f + 1) σ n y g l s3 A4 A5 (nI (4 * db (aY A))) (nI boy) x8 x9 x10 (nI len) (nI z) x15 x16 1 (nI i) = FL_law_389 L xs0 rl191 rl210 rl231 σ n y g l s3 (nI (4 * db (aY A))) (nI boy) x8 x9 x10 (nI len) (nI z) x16 1 := by
      show BL_law_288 L xs0 rl191 rl210 rl231 (FL_law_288 L xs0 rl191 rl210 rl231 f) σ n y g l s3 A4 A5 (nI (4 * db (aY A))) (nI boy) x8 x9 x10 (nI len) (nI z) x15 x16 1 (nI i) = _
      unfold BL_law_288
      rw [if_pos (nI_le (by omega) (by omega))]
    rw [un]
    unfold FL_law_389
    rw [if_neg (show ¬ (1 : Int32) = 0 by decide)]
    rcases hx16 with ⟨rfl, q⟩ | ⟨rfl, q⟩
    · rw [if_pos rfl, nm_eq, nI_1]
      exact .inr ⟨q, rfl⟩
    · rw [if_neg (show ¬ (1 : Int32) = 0 by decide), nm_eq, nI_1]
      exact .inl ⟨q, rfl⟩
  | succ m ih =>
    intro i fuel A4 A5 x15 x16 hi hf hok hE4 hT hx15 hx16
    obtain ⟨f, rfl⟩ : ∃ f, fuel = f + 1 := ⟨fuel - 1, by omega⟩
    have hx : x15 = nI ((4 * db (aY A)) ^ m) := by
      rcases hx15 with q | q
      · omega
      · exact q
    have hpw := pw3 (B := 4 * db (aY A)) (n := m) h12 (by omega)
    have hpos : 0 < (4 * db (aY A)) ^ m := Nat.pow_pos hB
    have hdv : z / (4 * db (aY A)) ^ m ≤ z := Nat.div_le_self _ _
    have hp : z / (4 * db (aY A)) ^ m % (4 * db (aY A)) < 4 * db (aY A) := Nat.mod_lt _ hB
    have ew : wdW (4 * db (aY A)) (i + 1) (z / (4 * db (aY A)) ^ m) = (z / (4 * db (aY A)) ^ m % (4 * db (aY A))) :: wdW (4 * db (aY A)) i (z / (4 * db (aY A)) ^ (m + 1)) := by
      show _ :: wdW (4 * db (aY A)) i (z / (4 * db (aY A)) ^ m / (4 * db (aY A))) = _
      rw [Nat.div_div_eq_div_mul, Nat.pow_succ]
    generalize hpe : z / (4 * db (aY A)) ^ m % (4 * db (aY A)) = p at hp ew
    generalize hwe : wdW (4 * db (aY A)) i (z / (4 * db (aY A)) ^ (m + 1)) = w at hok hE4 hx16 ew
    have hWw := ok_wf hA.1 hA.2.1 w hok
    obtain ⟨l', s', e1, e2⟩ := push_q hA.1 (t0_ok (aY A)) hY hWw hE4 hT (k := p / 4) (d := p % 4) (by omega) (by omega)
    have hP := pu_ok hA.1 (T := T0) hWw (k := p / 4) (d := p % 4) (by omega)
    obtain ⟨b1, b2, _⟩ := ho_bits (h := (pp (aY A) T0 (stW (aY A) (aD A) w) p).2.2) (fun q hq => (hP.2.2 q hq).2) hb
    have key : ∀ v : Int32, (m = 0 ∨ v = nI ((4 * db (aY A)) ^ (m - 1))) → (acW (aY A) boy (aD A) (wdW (4 * db (aY A)) len z) ∧ FL_law_327 L xs0 rl191 rl210 rl231 (FL_law_288 L xs0 rl191 rl210 rl231 f) σ n y g l s3 A4 A5 (nI (4 * db (aY A))) (nI boy) x8 x9 x10 (nI len) (nI z) (nI i) (nI p) v = rl231 σ n y g l s3 (nI (4 * db (aY A))) (nI boy) (nI len) (nI z) x10 (nI len) (nI (z + 1))) ∨ (¬ acW (aY A) boy (aD A) (wdW (4 * db (aY A)) len z) ∧ FL_law_327 L xs0 rl191 rl210 rl231 (FL_law_288 L xs0 rl191 rl210 rl231 f) σ n y g l s3 A4 A5 (nI (4 * db (aY A))) (nI boy) x8 x9 x10 (nI len) (nI z) (nI i) (nI p) v = rl231 σ n y g l s3 (nI (4 * db (aY A))) (nI boy) x8 x9 x10 (nI len) (nI (z + 1))) := by
      intro v hv
      unfold FL_law_327
      rw [dzI_ok (by decide), dzI_ok (by decide), m4 (by omega), d4 (by omega), e1, bn_some]
      cases ha : anyT (aY A) (pushD (aY A) T0 (stW (aY A) (aD A) w) (p / 4) (p % 4)).2.1
      · refine .inr ⟨fun hac => ?_, ?_⟩
        · have := ac_ok _ hac
          rw [show len = (i + 1) + m by omega] at this
          have := ok_wd m z this
          rw [ew] at this
          have h9 := this.2.2
          change anyT (aY A) (pushD (aY A) T0 (stW (aY A) (aD A) w) (p / 4) (p % 4)).2.1 = true at h9
          rw [ha] at h9
          cases h9
        · rw [if_neg (show ¬ false = true by decide)]
          show (if (-1 : Int32) < 0 then _ else _) = _
          rw [if_pos (show (-1 : Int32) < 0 by decide)]
          unfold FL_law_358
          rw [if_pos rfl, nm_eq, nI_1]
          obtain ⟨f', rfl⟩ : ∃ f', f = f' + 1 := ⟨f - 1, by omega⟩
          show BL_law_288 L xs0 rl191 rl210 rl231 (FL_law_288 L xs0 rl191 rl210 rl231 f') σ n y g l s3 l' s' (nI (4 * db (aY A))) (nI boy) x8 x9 x10 (nI len) (nI z) v 0 0 (nI (i + 1)) = _
          have e389 : FL_law_389 L xs0 rl191 rl210 rl231 σ n y g l s3 (nI (4 * db (aY A))) (nI boy) x8 x9 x10 (nI len) (nI z) 0 0 = rl231 σ n y g l s3 (nI (4 * db (aY A))) (nI boy) x8 x9 x10 (nI len) (nI (z + 1)) := by
            unfold FL_law_389
            rw [if_pos rfl, nm_eq, nI_1]
          unfold BL_law_288
          by_cases q : nI len ≤ nI (i + 1)
          · rw [if_pos q]; exact e389
          · rw [if_neg q, if_pos rfl]; exact e389
      · have hg : gsF (aY A) (stW (aY A) (aD A) w) p = true := ha
        rw [if_pos rfl]
        show (_ ∧ (if hoI (pp (aY A) T0 (stW (aY A) (aD A) w) p).2.2 < 0 then _ else _) = _) ∨ (_ ∧ (if hoI (pp (aY A) T0 (stW (aY A) (aD A) w) p).2.2 < 0 then _ else _) = _)
        rw [if_neg (show ¬ hoI (pp (aY A) T0 (stW (aY A) (aD A) w) p).2.2 < 0 by rw [toInt_lt]; rw [toInt_le] at b1; omega)]
        unfold FL_law_358
        rw [if_neg (show ¬ (1 : Int32) = 0 by decide)]
        by_cases hh : hgt (pp (aY A) T0 (stW (aY A) (aD A) w) p) = some boy
        · rw [if_pos (b2.mpr hh), nm_eq, nI_1]
          exact ih (i + 1) f l' s' v 1 (by omega) (by omega) (by rw [ew]; exact ⟨hok, hp, hg⟩) (by rw [ew]; exact e2.1) e2.2.2 hv (by rw [ew]; exact .inr ⟨rfl, hok, hp, hg, hh⟩)
        · rw [if_neg (fun q => hh (b2.mp q)), nm_eq, nI_1]
          exact ih (i + 1) f l' s' v 0 (by omega) (by omega) (by rw [ew]; exact ⟨hok, hp, hg⟩) (by rw [ew]; exact e2.1) e2.2.2 hv (by rw [ew]; exact .inl ⟨rfl, fun q => hh q.2.2.2⟩)
    have un : FL_law_288 L xs0 rl191 rl210 rl231 (f + 1) σ n y g l s3 A4 A5 (nI (4 * db (aY A))) (nI boy) x8 x9 x10 (nI len) (nI z) x15 x16 1 (nI i) = if nI ((4 * db (aY A)) ^ m / (4 * db (aY A))) ≤ 0 then FL_law_327 L xs0 rl191 rl210 rl231 (FL_law_288 L xs0 rl191 rl210 rl231 f) σ n y g l s3 A4 A5 (nI (4 * db (aY A))) (nI boy) x8 x9 x10 (nI len) (nI z) (nI i) (nI p) 1 else FL_law_327 L xs0 rl191 rl210 rl231 (FL_law_288 L xs0 rl191 rl210 rl231 f) σ n y g l s3 A4 A5 (nI (4 * db (aY A))) (nI boy) x8 x9 x10 (nI len) (nI z) (nI i) (nI p) (nI ((4 * db (aY A)) ^ m / (4 * db (aY A)))) := by
      show BL_law_288 L xs0 rl191 rl210 rl231 (FL_law_288 L xs0 rl191 rl210 rl231 f) σ n y g l s3 A4 A5 (nI (4 * db (aY A))) (nI boy) x8 x9 x10 (nI len) (nI z) x15 x16 1 (nI i) = _
      unfold BL_law_288
      rw [if_neg (nI_ge (by omega) (by omega)), if_neg (show ¬ (1 : Int32) = 0 by decide), hx, dzI_ok (nI_ne0 (by omega) (by omega)), dzI_ok (nI_ne0 (by omega) (by omega)), pk_div (by omega) (by omega) (by omega), pk_md (by omega) (by omega) (by omega), nm_eq, hpe, dzI_ok (nI_ne0 (by omega) (by omega)), pk_div (by omega) (by omega) (by omega), dzI_ok (nI_ne0 (by omega) (by omega))]
    rw [un]
    cases m with
    | zero =>
      rw [Nat.pow_zero, if_pos (show nI (1 / (4 * db (aY A))) ≤ 0 by rw [Nat.div_eq_of_lt (by omega)]; decide)]
      exact key 1 (.inl rfl)
    | succ m =>
      have e : (4 * db (aY A)) ^ (m + 1) / (4 * db (aY A)) = (4 * db (aY A)) ^ m := by rw [Nat.pow_succ, Nat.mul_div_cancel _ hB]
      have hpos' : 0 < (4 * db (aY A)) ^ m := Nat.pow_pos hB
      have hpw' := pw3 (B := 4 * db (aY A)) (n := m) h12 (by omega)
      rw [e, if_neg (nI_nle hpos' (by omega))]
      exact key _ (.inr (by rw [Nat.add_sub_cancel]))
end LF

/-- the trace becomes another -/
def wT (A : As) (t : Int32) : As := (A.1, A.2.1, A.2.2.1, A.2.2.2.1, A.2.2.2.2.1, A.2.2.2.2.2.1, t, A.2.2.2.2.2.2.2)
def wF (A : As) (f : Int32) : As := (A.1, A.2.1, A.2.2.1, A.2.2.2.1, A.2.2.2.2.1, A.2.2.2.2.2.1, A.2.2.2.2.2.2.1, f)
theorem rx_T {A : As} {σ : Mem} (h : RX A σ) (t : Int32) : RX (wT A t) (setI σ 0 11 t) := ⟨h.1, h.2.1, h.2.2.1, h.2.2.2.1, h.2.2.2.2.1, h.2.2.2.2.2.1, rfl, h.2.2.2.2.2.2.2⟩
theorem rx_F {A : As} {σ : Mem} (h : RX A σ) (f : Int32) : RX (wF A f) (setI σ 0 12 f) := ⟨h.1, h.2.1, h.2.2.1, h.2.2.2.1, h.2.2.2.2.1, h.2.2.2.2.2.1, h.2.2.2.2.2.2.1, rfl⟩
theorem rm_T {A : As} {τ : Mem} (h : RM A τ) (t : Int32) : RM (wT A t) (setI τ 0 51 t) := ⟨h.1, h.2.1, h.2.2.1, h.2.2.2.1, h.2.2.2.2.1, h.2.2.2.2.2.1, rfl, h.2.2.2.2.2.2.2⟩
theorem rm_F {A : As} {τ : Mem} (h : RM A τ) (f : Int32) : RM (wF A f) (setI τ 0 0 f) := ⟨h.1, h.2.1, h.2.2.1, h.2.2.2.1, h.2.2.2.2.1, h.2.2.2.2.2.1, h.2.2.2.2.2.2.1, rfl⟩
theorem wa_T {A : As} (h : WA A) (t : Int32) : WA (wT A t) := h
theorem wa_F {A : As} (h : WA A) (f : Int32) : WA (wF A f) := h
/-- a trace that a number was left in -/
def tr1 (t n : Int32) : Int32 := 31 * t + n
theorem dk3 {Y : Yd} (h : WFY Y) {k : Nat} (hk : k < db Y) : dk Y k = 0 ∨ dk Y k = 1 ∨ dk Y k = 2 := by
  have := (h.2.2.2.2 k hk).1
  omega
theorem fy_eq (σ : Mem) (f : Int32) : FX8_faulty σ f = some (-10 - f, setI σ 0 12 f) := rfl
theorem set2 {σ : Mem} {o k : Nat} {v w : Int32} : setI (setI σ o k v) o k w = setI σ o k w := by
  unfold setI
  refine Prod.ext ?_ rfl
  funext a
  by_cases ha : a = o
  · subst ha
    simp only [va_up_self]
    funext b
    by_cases hb : b = k
    · subst hb; simp [upd]
    · simp [upd, hb]
  · simp only [va_up_ne _ _ ha]
theorem ltz {b : Int32} : b < 0 ↔ b.toInt < 0 := toInt_lt
theorem le2 {b : Int32} : b ≤ 2 ↔ b.toInt ≤ 2 := toInt_le
theorem sta_eq {Y : Yd} {σ : Mem} (hS : XS Y σ) (h6 : db Y ≤ 6) {k : Nat} (hk : k < db Y) : FX1_startOf σ (nI k) = some (nI (ds Y k), σ) := by
  unfold FX1_startOf
  have ht : (nI k).toInt = k := nI_toInt (by omega)
  rw [hab_eq hS.2.2.1 h6, if_pos (by omega), bi_some, if_neg (by decide), rd_in (by omega) (by omega), hS.2.2.2.2.2.2.2.2.2.2.2.1 k hk]
/-- what telling answers, and what it leaves -/
def tellR (Y : Yd) (k : Nat) : Int32 := if dk Y k = 0 then nI (ds Y k) else if dk Y k = 1 then nI (ds Y k) + 100 else nI (ds Y k) + 100 + nI (ds Y k)
def tellT (Y : Yd) (k : Nat) (t : Int32) : Int32 := if dk Y k = 0 then tr1 t 1 else if dk Y k = 1 then tr1 (tr1 t 2) 1 else tr1 (tr1 (tr1 (tr1 t 3) 2) 1) 1

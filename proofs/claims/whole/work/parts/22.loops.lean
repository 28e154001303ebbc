/-! loops, Booleans -/
/-- a loop that counts up: I k holds before turn k; each turn goes on with I (k + 1) or has ended well -/
theorem lp_out {σ R : Type} (L : Nat → σ → Int32 → Option R) (I : Nat → σ → Prop) (N : Nat) (Out : Option R → Prop)
    (step : ∀ f k st, k < N → I k st → (∃ st', I (k + 1) st' ∧ L (f + 1) st (nI k) = L f st' (nI (k + 1))) ∨ Out (L (f + 1) st (nI k))) (fin : ∀ f st, I N st → Out (L (f + 1) st (nI N))) :
    ∀ (d k : Nat), k + d = N → ∀ f st, d < f → I k st → Out (L f st (nI k)) := by
  intro d
  induction d with
  | zero =>
    intro k hk f st hf hI
    obtain ⟨f, rfl⟩ : ∃ g, f = g + 1 := ⟨f - 1, by omega⟩
    have : k = N := by omega
    subst this
    exact fin f st hI
  | succ d ih =>
    intro k hk f st hf hI
    obtain ⟨f, rfl⟩ : ∃ g, f = g + 1 := ⟨f - 1, by omega⟩
    rcases step f k st (by omega) hI with ⟨st', h1, h2⟩ | h
    · rw [h2]; exact ih (k + 1) (by omega) f st' (by omega) h1
    · exact h
theorem lp_out0 {σ R : Type} (L : Nat → σ → Int32 → Option R) (I : Nat → σ → Prop) (N : Nat) (Out : Option R → Prop) (hN : N < 4096)
    (step : ∀ f k st, k < N → I k st → (∃ st', I (k + 1) st' ∧ L (f + 1) st (nI k) = L f st' (nI (k + 1))) ∨ Out (L (f + 1) st (nI k))) (fin : ∀ f st, I N st → Out (L (f + 1) st (nI N))) (st : σ) (h0 : I 0 st) : Out (L jF st 0) :=
  lp_out L I N Out step fin N 0 (by omega) jF st hN h0
/-- counting down: dn k is k - 1 -/
def dn : Nat → Int32
  | 0 => -1
  | k + 1 => nI k
theorem dn_sub (k : Nat) : nI k - 1 = dn k := by
  cases k with
  | zero => decide
  | succ k => exact nI_pred k
theorem dn_add (k : Nat) : nI k + (-1) = dn k := by
  cases k with
  | zero => decide
  | succ k => exact pk_m1 k
theorem dn_neg : dn 0 < 0 := by decide
theorem dn_pos {k : Nat} (h : k < 2 ^ 31) : ¬ dn (k + 1) < 0 := nI_pos h
theorem lp_dn {σ R : Type} (L : Nat → σ → Int32 → Option R) (I : Nat → σ → Prop) (Out : Option R → Prop)
    (step : ∀ f k st, I (k + 1) st → (∃ st', I k st' ∧ L (f + 1) st (nI k) = L f st' (dn k)) ∨ Out (L (f + 1) st (nI k))) (fin : ∀ f st, I 0 st → Out (L (f + 1) st (-1))) :
    ∀ (k : Nat), ∀ f st, k < f → I k st → Out (L f st (dn k)) := by
  intro k
  induction k with
  | zero =>
    intro f st hf hI
    obtain ⟨f, rfl⟩ : ∃ g, f = g + 1 := ⟨f - 1, by omega⟩
    exact fin f st hI
  | succ k ih =>
    intro f st hf hI
    obtain ⟨f, rfl⟩ : ∃ g, f = g + 1 := ⟨f - 1, by omega⟩
    rcases step f k st hI with ⟨st', h1, h2⟩ | h
    · show Out (L (f + 1) st (nI k)); rw [h2]; exact ih f st' (by omega) h1
    · exact h
def bI (b : Bool) : Int32 := if b = true then 1 else 0
theorem bI_t : bI true = 1 := rfl
theorem bI_f : bI false = 0 := rfl
theorem bI_z (b : Bool) : bI b = 0 ↔ b = false := by cases b <;> decide
theorem bI_jz (b : Bool) : jz (bI b) = true := by cases b <;> decide
theorem bI_nar (b : Bool) : vp_nar .boolean (bI b) = bI b := by cases b <;> decide
def anyB (p : Nat → Bool) : Nat → Bool
  | 0 => false
  | n + 1 => anyB p n || p n
theorem anyB_iff {p : Nat → Bool} {n : Nat} : anyB p n = true ↔ ∃ k, k < n ∧ p k = true := by
  induction n with
  | zero => simp [anyB]
  | succ n ih =>
    simp only [anyB, Bool.or_eq_true, ih]
    constructor
    · rintro (⟨k, h1, h2⟩ | h)
      · exact ⟨k, by omega, h2⟩
      · exact ⟨n, by omega, h⟩
    · rintro ⟨k, h1, h2⟩
      by_cases e : k = n
      · subst e; exact Or.inr h2
      · exact Or.inl ⟨k, by omega, h2⟩
def allB (p : Nat → Bool) : Nat → Bool
  | 0 => true
  | n + 1 => allB p n && p n
theorem allB_iff {p : Nat → Bool} {n : Nat} : allB p n = true ↔ ∀ k, k < n → p k = true := by
  induction n with
  | zero => simp [allB]
  | succ n ih =>
    simp only [allB, Bool.and_eq_true, ih]
    constructor
    · rintro ⟨h1, h2⟩ k hk
      by_cases e : k = n
      · subst e; exact h2
      · exact h1 k (by omega)
    · intro h
      exact ⟨fun k hk => h k (by omega), h n (by omega)⟩
theorem up_self (a : jB) (k : Nat) (f : Nat → Int32) : va_up a k f k = f := va_up_self a k f
theorem up_ne (a : jB) {k j : Nat} (f : Nat → Int32) (h : j ≠ k) : va_up a k f j = a j := va_up_ne a f h
theorem up_up (a : jB) (k : Nat) (f g : Nat → Int32) : va_up (va_up a k f) k g = va_up a k g := bx_uu a k f g
theorem up_id (a : jB) (k : Nat) : va_up a k (a k) = a := by
  funext j
  unfold va_up
  split
  · rename_i h; rw [h]
  · rfl
theorem j_pair {i j : Nat} : (21 : Int32) * nI i + nI j = nI (21 * i + j) := by
  rw [show (21 : Int32) = nI 21 from rfl, pk_mul, nI_add]

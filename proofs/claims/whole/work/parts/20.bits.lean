/-! sets of numbers below 32 as Int32 (the first rows are of kit/laws/BITS.to-paste) -/
def bt (x : Int32) (i : Nat) : Bool := x.toBitVec.getLsbD i
theorem b_ext {x y : Int32} (h : ∀ i, i < 32 → bt x i = bt y i) : x = y := Int32.toBitVec_inj.mp (BitVec.eq_of_getLsbD_eq (fun i hi => h i hi))
theorem b_or (x y : Int32) (i : Nat) : bt (x ||| y) i = (bt x i || bt y i) := by unfold bt; rw [Int32.toBitVec_or, BitVec.getLsbD_or]
theorem b_and (x y : Int32) (i : Nat) : bt (x &&& y) i = (bt x i && bt y i) := by unfold bt; rw [Int32.toBitVec_and, BitVec.getLsbD_and]
theorem b_xor (x y : Int32) (i : Nat) : bt (x ^^^ y) i = (bt x i ^^ bt y i) := by unfold bt; rw [Int32.toBitVec_xor, BitVec.getLsbD_xor]
theorem b_big {x : Int32} {i : Nat} (h : 32 ≤ i) : bt x i = false := BitVec.getLsbD_of_ge _ _ h
theorem b_m1 : ∀ i, i < 32 → bt (-1) i = true := by decide +kernel
theorem b_0 (i : Nat) : bt 0 i = false := BitVec.getLsbD_zero
theorem s_l : ∀ n, n < 32 → ((nI n &&& 31).toBitVec.smod 32).toNat = n := by decide +kernel
theorem b_shl (n : Nat) (hn : n < 32) (x : Int32) {i : Nat} (hi : i < 32) : bt (x <<< (nI n &&& 31)) i = (decide (n ≤ i) && bt x (i - n)) := by
  unfold bt
  rw [Int32.toBitVec_shiftLeft]
  show (x.toBitVec <<< ((nI n &&& 31).toBitVec.smod 32).toNat).getLsbD i = _
  rw [s_l n hn, BitVec.getLsbD_shiftLeft]
  rcases Nat.lt_or_ge i n with h | h
  · simp [h, Nat.not_le.mpr h]
  · simp [hi, h, Nat.not_lt.mpr h]
/-- one bit -/
def b1 (n : Nat) : Int32 := (1 : Int32) <<< (nI n &&& 31)
theorem b_one (i : Nat) : bt 1 i = decide (i = 0) := by
  rcases Nat.lt_or_ge i 32 with h | h
  · exact (by decide +kernel : ∀ i, i < 32 → bt 1 i = decide (i = 0)) i h
  · rw [b_big h, decide_eq_false (by omega)]
theorem b_b1 {n : Nat} (hn : n < 32) (i : Nat) : bt (b1 n) i = decide (i = n) := by
  rcases Nat.lt_or_ge i 32 with h | h
  · unfold b1
    rw [b_shl n hn _ h, b_one]
    rw [Bool.eq_iff_iff]
    simp
    omega
  · rw [b_big h, decide_eq_false (by omega)]
theorem b_not (x : Int32) {i : Nat} (h : i < 32) : bt (x ^^^ (-1)) i = !bt x i := by
  rw [b_xor, b_m1 i h]
  cases bt x i <;> rfl
theorem b_z {x : Int32} : x = 0 ↔ ∀ i, i < 32 → bt x i = false := by
  constructor
  · rintro rfl i _; exact b_0 i
  · intro h; exact b_ext (fun i hi => by rw [h i hi, b_0])
theorem b_hit {x : Int32} {n : Nat} (hn : n < 32) : (x &&& b1 n) = 0 ↔ bt x n = false := by
  rw [b_z]
  constructor
  · intro h
    have := h n hn
    rw [b_and, b_b1 hn] at this
    simpa using this
  · intro h i hi
    rw [b_and, b_b1 hn]
    by_cases e : i = n
    · subst e; simp [h]
    · simp [e]
/-- the set of the i below n with p i -/
def bs (p : Nat → Bool) : Nat → Int32
  | 0 => 0
  | n + 1 => if p n = true then bs p n ||| b1 n else bs p n
theorem b_bs (p : Nat → Bool) : ∀ {n : Nat}, n ≤ 32 → ∀ i, bt (bs p n) i = (decide (i < n) && p i) := by
  intro n
  induction n with
  | zero => intro _ i; simp [bs, b_0]
  | succ n ih =>
    intro hn i
    have h := ih (by omega) i
    by_cases hp : p n = true
    · rw [bs, if_pos hp, b_or, h, b_b1 (by omega)]
      rw [Bool.eq_iff_iff]
      by_cases e : i = n
      · subst e; simp [hp]
      · simp [e]
        intro _
        omega
    · rw [bs, if_neg hp, h]
      rw [Bool.eq_iff_iff]
      by_cases e : i = n
      · subst e; simp [hp]
      · simp
        intro _
        omega
theorem bs_eq {x : Int32} {p : Nat → Bool} {n : Nat} (hn : n ≤ 32) (h : ∀ i, i < 32 → bt x i = (decide (i < n) && p i)) : x = bs p n := b_ext (fun i hi => by rw [h i hi, b_bs p hn])
theorem bs_congr {p q : Nat → Bool} {n : Nat} (h : ∀ i, i < n → p i = q i) : bs p n = bs q n := by
  induction n with
  | zero => rfl
  | succ n ih => rw [bs, bs, ih (fun i hi => h i (by omega)), h n (by omega)]
/-! loops that count up -/
/-- a loop whose state behind the first k turns is acc k -/
theorem lp_up {σ R : Type} (L : Nat → σ → Int32 → Option R) (acc : Nat → σ) (N : Nat) (kk : σ → Option R)
    (step : ∀ f k, k < N → L (f + 1) (acc k) (nI k) = L f (acc (k + 1)) (nI (k + 1))) (fin : ∀ f, L (f + 1) (acc N) (nI N) = kk (acc N)) :
    ∀ (d k : Nat), k + d = N → ∀ f, d < f → L f (acc k) (nI k) = kk (acc N) := by
  intro d
  induction d with
  | zero =>
    intro k hk f hf
    obtain ⟨f, rfl⟩ : ∃ g, f = g + 1 := ⟨f - 1, by omega⟩
    have : k = N := by omega
    subst this
    exact fin f
  | succ d ih =>
    intro k hk f hf
    obtain ⟨f, rfl⟩ : ∃ g, f = g + 1 := ⟨f - 1, by omega⟩
    rw [step f k (by omega)]
    exact ih (k + 1) (by omega) f (by omega)
theorem lp_up0 {σ R : Type} (L : Nat → σ → Int32 → Option R) (acc : Nat → σ) (N : Nat) (kk : σ → Option R) (hN : N < 4096)
    (step : ∀ f k, k < N → L (f + 1) (acc k) (nI k) = L f (acc (k + 1)) (nI (k + 1))) (fin : ∀ f, L (f + 1) (acc N) (nI N) = kk (acc N)) :
    L jF (acc 0) 0 = kk (acc N) := lp_up L acc N kk step fin N 0 (by omega) jF hN
theorem j_lt {k n : Nat} (h : k < n) (hn : n < 2 ^ 31) : ¬ nI n ≤ nI k := by
  rw [nI_leI hn (by omega)]; omega
theorem j_le {k n : Nat} (h : n ≤ k) (hk : k < 2 ^ 31) : nI n ≤ nI k := (nI_leI (by omega) hk).mpr h
theorem jin_nI {k n : Nat} (h : k < n) (hn : n < 2 ^ 31) : jin (nI k) n = true := by
  unfold jin
  rw [nI_toInt (by omega)]
  simp
  omega
theorem jg_t {α : Type} (x : Option α) : jg true x = x := rfl
theorem jg_nI {α : Type} {k n : Nat} (h : k < n) (hn : n < 2 ^ 31) (x : Option α) : jg (jin (nI k) n) x = x := by rw [jin_nI h hn]; rfl
theorem jb_s {α β : Type} (v : α) (k : α → Option β) : jb (some v) k = k v := rfl
theorem jb2_s {β : Type} (s : jS) (a : jB) (k : jS → jB → Option β) : jb2 (some (s, a)) k = k s a := rfl
theorem jb3_s {β : Type} (v : Int32) (s : jS) (a : jB) (k : Int32 → jS → jB → Option β) : jb3 (some (v, s, a)) k = k v s a := rfl

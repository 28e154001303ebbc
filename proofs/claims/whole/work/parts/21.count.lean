/-! how many bits: Integer.bitCount's sum, byte by byte -/
theorem nd_split {a b c d : Nat} (k : Nat) (hb : b < 2 ^ k) (hd : d < 2 ^ k) : (2 ^ k * a + b) &&& (2 ^ k * c + d) = 2 ^ k * (a &&& c) + (b &&& d) := by
  apply Nat.eq_of_testBit_eq
  intro j
  rw [Nat.testBit_and, Nat.testBit_two_pow_mul_add _ hb, Nat.testBit_two_pow_mul_add _ hd, Nat.testBit_two_pow_mul_add _ (Nat.and_lt_two_pow _ hd)]
  by_cases h : j < k
  · simp [h]
  · simp [h]
def pcA (n : Nat) : Nat := n - ((n / 2) &&& 0x55555555)
def pcB (n : Nat) : Nat := (pcA n &&& 0x33333333) + ((pcA n / 4) &&& 0x33333333)
def pcC (n : Nat) : Nat := (pcB n + pcB n / 16) &&& 0x0f0f0f0f
theorem nd_top {m : Nat} (hm : m < 2 ^ 24) (c d : Nat) (hd : d < 2 ^ 24) : m &&& (2 ^ 24 * c + d) = m &&& d := by
  have := nd_split (a := 0) (b := m) (c := c) (d := d) 24 hm hd
  simpa using this
theorem pcA_le (n : Nat) : pcA n ≤ n := Nat.sub_le _ _
theorem pcA_split {b m : Nat} (hb : b < 256) (hm : m < 2 ^ 24) : pcA (256 * m + b) = 256 * pcA m + pcA b := by
  unfold pcA
  have e1 : (256 * m + b) / 2 = 2 ^ 8 * (m / 2) + (128 * (m % 2) + b / 2) := by omega
  have e2 : (256 * m + b) / 2 &&& 0x55555555 = 256 * ((m / 2) &&& 0x555555) + ((128 * (m % 2) + b / 2) &&& 0x55) := by
    rw [e1]
    exact nd_split (c := 0x555555) (d := 0x55) 8 (by omega) (by decide)
  have e3 : (128 * (m % 2) + b / 2) &&& 0x55 = (b / 2) &&& 0x55 := by
    have := nd_split (a := m % 2) (b := b / 2) (c := 0) (d := 0x55) 7 (by omega) (by decide)
    simpa using this
  have e4 : (m / 2) &&& 0x55555555 = (m / 2) &&& 0x555555 := nd_top (m := m / 2) (by omega) 0x55 0x555555 (by decide)
  have e5 : (b / 2) &&& 0x55555555 = (b / 2) &&& 0x55 := by
    have := nd_split (a := 0) (b := b / 2) (c := 0x555555) (d := 0x55) 8 (by omega) (by decide)
    simpa using this
  rw [e2, e3, e4, e5]
  have h1 : (m / 2) &&& 0x555555 ≤ m / 2 := Nat.and_le_left
  have h2 : (b / 2) &&& 0x55 ≤ b / 2 := Nat.and_le_left
  omega
theorem pcB_split {b m : Nat} (hb : b < 256) (hm : m < 2 ^ 24) : pcB (256 * m + b) = 256 * pcB m + pcB b := by
  unfold pcB
  rw [pcA_split hb hm]
  have hp : pcA m < 2 ^ 24 := Nat.lt_of_le_of_lt (pcA_le m) hm
  have hq : pcA b < 256 := Nat.lt_of_le_of_lt (pcA_le b) hb
  generalize pcA m = p at hp ⊢
  generalize pcA b = q at hq ⊢
  have e1 : (256 * p + q) &&& 0x33333333 = 256 * (p &&& 0x333333) + (q &&& 0x33) := nd_split (c := 0x333333) (d := 0x33) 8 (by omega) (by decide)
  have e2 : (256 * p + q) / 4 = 2 ^ 8 * (p / 4) + (64 * (p % 4) + q / 4) := by omega
  have e3 : (256 * p + q) / 4 &&& 0x33333333 = 256 * ((p / 4) &&& 0x333333) + ((64 * (p % 4) + q / 4) &&& 0x33) := by
    rw [e2]
    exact nd_split (c := 0x333333) (d := 0x33) 8 (by omega) (by decide)
  have e4 : (64 * (p % 4) + q / 4) &&& 0x33 = (q / 4) &&& 0x33 := by
    have := nd_split (a := p % 4) (b := q / 4) (c := 0) (d := 0x33) 6 (by omega) (by decide)
    simpa using this
  have e5 : p &&& 0x33333333 = p &&& 0x333333 := nd_top hp 0x33 0x333333 (by decide)
  have e6 : (p / 4) &&& 0x33333333 = (p / 4) &&& 0x333333 := nd_top (m := p / 4) (by omega) 0x33 0x333333 (by decide)
  have e7 : q &&& 0x33333333 = q &&& 0x33 := by
    have := nd_split (a := 0) (b := q) (c := 0x333333) (d := 0x33) 8 (by omega) (by decide)
    simpa using this
  have e8 : (q / 4) &&& 0x33333333 = (q / 4) &&& 0x33 := by
    have := nd_split (a := 0) (b := q / 4) (c := 0x333333) (d := 0x33) 8 (by omega) (by decide)
    simpa using this
  rw [e1, e3, e4, e5, e6, e7, e8]
  omega
theorem pcB_b : ∀ b, b < 256 → pcB b ≤ 68 ∧ pcB b % 16 ≤ 4 := by decide +kernel
theorem pcB_16 {m : Nat} (hm : m < 2 ^ 24) : pcB m % 16 ≤ 4 := by
  have := pcB_split (b := m % 256) (m := m / 256) (by omega) (by omega)
  rw [show 256 * (m / 256) + m % 256 = m by omega] at this
  have h := (pcB_b (m % 256) (by omega)).2
  omega
theorem pcB_le {m : Nat} (hm : m < 2 ^ 16) : pcB m < 2 ^ 20 := by
  unfold pcB
  have h1 : pcA m &&& 0x33333333 ≤ pcA m := Nat.and_le_left
  have h2 : pcA m / 4 &&& 0x33333333 ≤ pcA m / 4 := Nat.and_le_left
  have h3 := pcA_le m
  omega
theorem pcC_split {b m : Nat} (hb : b < 256) (hm : m < 2 ^ 16) : pcC (256 * m + b) = 256 * pcC m + pcC b := by
  unfold pcC
  rw [pcB_split hb (by omega)]
  have h1 := pcB_16 (m := m) (by omega)
  have h2 := (pcB_b b hb).1
  have h3 := pcB_le hm
  generalize pcB m = p at h1 h3 ⊢
  generalize pcB b = q at h2 ⊢
  have e1 : 256 * p + q + (256 * p + q) / 16 = 2 ^ 8 * (p + p / 16) + (16 * (p % 16) + (q + q / 16)) := by omega
  have e2 : (256 * p + q + (256 * p + q) / 16) &&& 0x0f0f0f0f = 256 * ((p + p / 16) &&& 0x0f0f0f) + ((16 * (p % 16) + (q + q / 16)) &&& 0x0f) := by
    rw [e1]
    exact nd_split (c := 0x0f0f0f) (d := 0x0f) 8 (by omega) (by decide)
  have e3 : (16 * (p % 16) + (q + q / 16)) &&& 0x0f = (q + q / 16) &&& 0x0f := by
    rw [show (0x0f : Nat) = 2 ^ 4 - 1 by decide, Nat.and_two_pow_sub_one_eq_mod, Nat.and_two_pow_sub_one_eq_mod]
    omega
  have e4 : (p + p / 16) &&& 0x0f0f0f0f = (p + p / 16) &&& 0x0f0f0f := nd_top (by omega) 0x0f 0x0f0f0f (by decide)
  have e5 : (q + q / 16) &&& 0x0f0f0f0f = (q + q / 16) &&& 0x0f := by
    have := nd_split (a := 0) (b := q + q / 16) (c := 0x0f0f0f) (d := 0x0f) 8 (by omega) (by decide)
    simpa using this
  rw [e2, e3, e4, e5]
/-- how many i below n have p i -/
def cb (p : Nat → Bool) : Nat → Nat
  | 0 => 0
  | n + 1 => cb p n + (if p n = true then 1 else 0)
theorem cb_congr {p q : Nat → Bool} {n : Nat} (h : ∀ i, i < n → p i = q i) : cb p n = cb q n := by
  induction n with
  | zero => rfl
  | succ n ih => rw [cb, cb, ih (fun i hi => h i (by omega)), h n (by omega)]
theorem cb_le (p : Nat → Bool) : ∀ n, cb p n ≤ n := by
  intro n
  induction n with
  | zero => exact Nat.le_refl _
  | succ n ih => rw [cb]; split <;> omega
theorem cb_add (p : Nat → Bool) (m : Nat) : ∀ n, cb p (m + n) = cb p m + cb (fun i => p (m + i)) n := by
  intro n
  induction n with
  | zero => simp [cb]
  | succ n ih => rw [← Nat.add_assoc, cb, ih, cb]; omega
theorem pcC_b : ∀ b, b < 256 → pcC b = cb (fun i => b.testBit i) 8 := by decide +kernel
theorem pc_sum {n : Nat} (hn : n < 2 ^ 21) : ∃ c0 c1 c2, c0 ≤ 8 ∧ c1 ≤ 8 ∧ c2 ≤ 8 ∧ pcC n = c0 + 256 * c1 + 65536 * c2 ∧ cb (fun i => n.testBit i) 21 = c0 + c1 + c2 := by
  have hb : ∀ b, b < 256 → pcC b ≤ 8 := fun b h => by rw [pcC_b b h]; exact cb_le _ _
  refine ⟨pcC (n % 256), pcC (n / 256 % 256), pcC (n / 65536), hb _ (by omega), hb _ (by omega), hb _ (by omega), ?_, ?_⟩
  · have e1 := pcC_split (b := n % 256) (m := n / 256) (by omega) (by omega)
    have e2 := pcC_split (b := n / 256 % 256) (m := n / 65536) (by omega) (by omega)
    rw [show 256 * (n / 256) + n % 256 = n by omega] at e1
    rw [show 256 * (n / 65536) + n / 256 % 256 = n / 256 by omega] at e2
    omega
  · rw [pcC_b _ (by omega), pcC_b _ (by omega), pcC_b _ (by omega)]
    have h3 : cb (fun i => (n / 65536).testBit i) 8 = cb (fun i => (n / 65536).testBit i) 5 := by
      rw [show 8 = 5 + 3 from rfl, cb_add]
      have : ∀ i, (n / 65536).testBit (5 + i) = false := fun i => Nat.testBit_lt_two_pow (Nat.lt_of_lt_of_le (show n / 65536 < 2 ^ 5 by omega) (Nat.pow_le_pow_right (by decide) (by omega)))
      simp [cb]
      exact ⟨⟨this 0, this 1⟩, this 2⟩
    rw [h3, show 21 = 8 + (8 + 5) from rfl, cb_add, cb_add, ← Nat.add_assoc]
    congr 1
    · congr 1
      · apply cb_congr; intro i hi
        rw [show (256 : Nat) = 2 ^ 8 by decide, Nat.testBit_mod_two_pow]; simp [hi]
      · apply cb_congr; intro i hi
        rw [show n / 256 % 256 = (n / 2 ^ 8) % 2 ^ 8 by rfl, Nat.testBit_mod_two_pow, Nat.testBit_div_two_pow]; simp [hi, Nat.add_comm]
    · apply cb_congr; intro i hi
      rw [show n / 65536 = n / 2 ^ 16 by rfl, Nat.testBit_div_two_pow]
      congr 1
      omega
theorem nx_and (a b : Nat) : nI a &&& nI b = nI (a &&& b) := by
  apply Int32.toBitVec_inj.1
  show BitVec.ofNat 32 a &&& BitVec.ofNat 32 b = BitVec.ofNat 32 (a &&& b)
  apply BitVec.eq_of_getLsbD_eq
  intro i hi
  simp [hi]
theorem bt_nI {n : Nat} (i : Nat) (hi : i < 32) : bt (nI n) i = n.testBit i := by
  show (BitVec.ofNat 32 n).getLsbD i = _
  rw [BitVec.getLsbD_ofNat]
  simp [hi]
/-- Integer.bitCount of a set of numbers below 21 -/
theorem x_bitCount {x : Int32} (hx : ∀ i, 21 ≤ i → bt x i = false) : m_JI_bitCount x = some (nI (cb (bt x) 21)) := by
  obtain ⟨n, hn32, rfl⟩ : ∃ n, n < 2 ^ 32 ∧ x = nI n := ⟨x.toBitVec.toNat, x.toBitVec.isLt, Int32.toBitVec_inj.mp (by show x.toBitVec = BitVec.ofNat 32 _; simp)⟩
  have hn : n < 2 ^ 21 := by
    apply Nat.lt_pow_two_of_testBit
    intro i hi
    rcases Nat.lt_or_ge i 32 with h | h
    · rw [← bt_nI i h]; exact hx i hi
    · exact Nat.testBit_lt_two_pow (Nat.lt_of_lt_of_le hn32 (Nat.pow_le_pow_right (by decide) h))
  obtain ⟨c0, c1, c2, h0, h1, h2, e1, e2⟩ := pc_sum hn
  have hA := pcA_le n
  have hand : ∀ m, n / 2 &&& m ≤ n / 2 := fun m => Nat.and_le_left
  have hB : pcB n < 2 ^ 22 := by
    unfold pcB
    have h1 : pcA n &&& 0x33333333 ≤ pcA n := Nat.and_le_left
    have h2 : pcA n / 4 &&& 0x33333333 ≤ pcA n / 4 := Nat.and_le_left
    omega
  have hcb : cb (bt (nI n)) 21 = c0 + c1 + c2 := by
    rw [← e2]
    exact cb_congr (fun i hi => bt_nI i (by omega))
  unfold m_JI_bitCount
  simp only [jb_s]
  rw [pk_ushrN (n := n) (by omega) 1 1 (by decide)]
  rw [show (1431655765 : Int32) = nI 0x55555555 from rfl, nx_and, pk_sub (Nat.le_trans (hand _) (by omega))]
  rw [show n - (n / 2 &&& 0x55555555) = pcA n from rfl]
  rw [pk_ushrN (n := pcA n) (by omega) 2 2 (by decide)]
  rw [show (858993459 : Int32) = nI 0x33333333 from rfl, nx_and, nx_and, nI_add]
  rw [show (pcA n &&& 0x33333333) + (pcA n / 2 ^ 2 &&& 0x33333333) = pcB n from rfl]
  rw [pk_ushrN (n := pcB n) (by omega) 4 4 (by decide)]
  rw [show (252645135 : Int32) = nI 0x0f0f0f0f from rfl, nI_add, nx_and]
  rw [show (pcB n + pcB n / 2 ^ 4 &&& 0x0f0f0f0f) = pcC n from rfl]
  rw [pk_ushrN (n := pcC n) (by omega) 8 8 (by decide), nI_add]
  rw [pk_ushrN (n := pcC n + pcC n / 2 ^ 8) (by omega) 16 16 (by decide), nI_add]
  rw [show (63 : Int32) = nI (2 ^ 6 - 1) from rfl, nx_and, Nat.and_two_pow_sub_one_eq_mod]
  rw [hcb, e1]
  congr 2
  have g1 : (c0 + 256 * c1 + 65536 * c2) / 2 ^ 8 = c1 + 256 * c2 := by omega
  rw [g1]
  have g2 : (c0 + 256 * c1 + 65536 * c2 + (c1 + 256 * c2)) / 2 ^ 16 = c2 := by omega
  rw [g2]
  omega
theorem x_ntz : ∀ k, k < 21 → m_JI_numberOfTrailingZeros (b1 k) = some (nI k) := by decide +kernel

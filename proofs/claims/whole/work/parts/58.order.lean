/-! directly above, directly below, first of the same: both sides -/
def undB (Y : Nat → Nat → Bool) (i j : Nat) : Bool := Y i j && !Y j i
def dirB (nc : Nat) (P : Nat → Bool) (Y : Nat → Nat → Bool) (i j : Nat) : Bool := (P j && undB Y i j) && allB (fun k => !(P k && (undB Y i k && undB Y k j))) nc
def secB (P : Nat → Bool) (Y : Nat → Nat → Bool) (c : Nat) : Bool := anyB (fun k => P k && (Y k c && Y c k)) c
def hbB (nc : Nat) (P : Nat → Bool) (Y : Nat → Nat → Bool) (c : Nat) : Bool := anyB (fun k => P k && dirB nc P Y k c) nc
theorem lp_all {R : Type} (L : Nat → Int32 → Int32 → Option R) (q : Nat → Bool) (N : Nat) (hN : N < 4096) (kk : Int32 → Option R) (b0 : Bool) (step : ∀ f k b, k < N → L (f + 1) (bI b) (nI k) = L f (bI (b && q k)) (nI (k + 1))) (fin : ∀ f z, L (f + 1) z (nI N) = kk z) : L jF (bI b0) 0 = kk (bI (b0 && allB q N)) := by
  have key := lp_up0 L (fun k => bI (b0 && allB q k)) N kk hN (fun f k hk => by rw [step f k _ hk, Bool.and_assoc]; rfl) (fun f => fin f _)
  rw [show (b0 && allB q 0) = b0 by simp [allB]] at key
  exact key
theorem lp_any {R : Type} (L : Nat → Int32 → Int32 → Option R) (q : Nat → Bool) (N : Nat) (hN : N < 4096) (kk : Int32 → Option R) (b0 : Bool) (step : ∀ f k b, k < N → L (f + 1) (bI b) (nI k) = L f (bI (b || q k)) (nI (k + 1))) (fin : ∀ f z, L (f + 1) z (nI N) = kk z) : L jF (bI b0) 0 = kk (bI (b0 || anyB q N)) := by
  have key := lp_up0 L (fun k => bI (b0 || anyB q k)) N kk hN (fun f k hk => by rw [step f k _ hk, Bool.or_assoc]; rfl) (fun f => fin f _)
  rw [show (b0 || anyB q 0) = b0 by simp [anyB]] at key
  exact key
theorem lp_set {R : Type} (L : Nat → Int32 → Int32 → Option R) (q : Nat → Bool) (N : Nat) (hN : N < 4096) (kk : Int32 → Option R) (step : ∀ f k z, k < N → L (f + 1) z (nI k) = L f (if q k = true then z ||| b1 k else z) (nI (k + 1))) (fin : ∀ f z, L (f + 1) z (nI N) = kk z) : L jF 0 0 = kk (bs q N) :=
  lp_up0 L (fun k => bs q k) N kk hN (fun f k hk => by rw [step f k _ hk]; rfl) (fun f => fin f _)
/-- what the reference's table says, as Y; and the placed, as P -/
def MB (nc : Nat) (Y : Nat → Nat → Bool) (s : jS) (a : jB) : Prop := ∀ i j, hr nc i → hr nc j → m_M_below s a (nI i) (nI j) = some (bI (Y i j))
def MP (P : Nat → Bool) (a : jB) : Prop := ∀ c, c < 20 → a 8 c = bI (P c)
theorem M_isUnder {nc : Nat} {Y : Nat → Nat → Bool} {s : jS} {a : jB} (hB : MB nc Y s a) {i j : Nat} (hi : hr nc i) (hj : hr nc j) : m_M_isUnder s a (nI i) (nI j) = some (bI (undB Y i j)) := by
  unfold m_M_isUnder undB
  rw [hB i j hi hj, jb_s, hB j i hj hi, jb_s]
  cases Y i j <;> cases Y j i <;> rfl
theorem M_isDirect {nc : Nat} (hn : nc ≤ 20) {Y : Nat → Nat → Bool} {P : Nat → Bool} {s : jS} {a : jB} (hs : s 1 = nI nc) (hB : MB nc Y s a) (hP : MP P a) {i j : Nat} (hi : hr nc i) (hj : j < nc) : m_M_isDirect s a (nI i) (nI j) = some (bI (dirB nc P Y i j)) := by
  unfold m_M_isDirect
  have e : (if (a 8) (nI j).toNatClampNeg = (0 : Int32) then some (0 : Int32) else jb (m_M_isUnder s a (nI i) (nI j)) (fun v10 => (if v10 = (0 : Int32) then some (0 : Int32) else some (1 : Int32)))) = some (bI (P j && undB Y i j)) := by
    rw [nI_clamp (by omega), hP j (by omega), M_isUnder hB hi (Or.inl hj), jb_s]
    cases P j <;> cases undB Y i j <;> rfl
  rw [jg_nI (by omega) (by decide), e, jb_s]
  refine (lp_all (fun f z y => L_M_isDirect_27 s a (nI i) (nI j) (fun x7 => jg (jz x7) (some x7)) f z y) (fun k => !(P k && (undB Y i k && undB Y k j))) nc (by omega) (fun x7 => jg (jz x7) (some x7)) (P j && undB Y i j) (fun f k b hk => ?_) (fun f z => ?_)).trans ?_
  · show L_M_isDirect_27 s a (nI i) (nI j) _ (f + 1) (bI b) (nI k) = _
    rw [L_M_isDirect_27, hs, if_neg (j_lt hk (by omega)), jg_nI (by omega) (by decide), nI_clamp (by omega), hP k (by omega), M_isUnder hB hi (Or.inl hk), jb_s, M_isUnder hB (Or.inl hk) (Or.inl hj), jb_s, nI_1]
    cases b <;> cases P k <;> cases undB Y i k <;> cases undB Y k j <;> rfl
  · show L_M_isDirect_27 s a (nI i) (nI j) _ (f + 1) z (nI nc) = _
    rw [L_M_isDirect_27, hs, if_pos (j_le (Nat.le_refl _) (by omega))]
  · rw [bI_jz]; rfl
theorem M_isSecond {nc : Nat} (hn : nc ≤ 20) {Y : Nat → Nat → Bool} {P : Nat → Bool} {s : jS} {a : jB} (hB : MB nc Y s a) (hP : MP P a) {c : Nat} (hc : c < nc) : m_M_isSecond s a (nI c) = some (bI (secB P Y c)) := by
  unfold m_M_isSecond
  refine (lp_any (fun f z y => L_M_isSecond_4 s a (nI c) (fun x6 => jg (jz x6) (some x6)) f z y) (fun k => P k && (Y k c && Y c k)) c (by omega) (fun x6 => jg (jz x6) (some x6)) false (fun f k b hk => ?_) (fun f z => ?_)).trans ?_
  · show L_M_isSecond_4 s a (nI c) _ (f + 1) (bI b) (nI k) = _
    rw [L_M_isSecond_4, if_neg (j_lt hk (by omega)), jg_nI (by omega) (by decide), nI_clamp (by omega), hP k (by omega), hB k c (Or.inl (by omega)) (Or.inl hc), jb_s, hB c k (Or.inl hc) (Or.inl (by omega)), jb_s, nI_1]
    cases b <;> cases P k <;> cases Y k c <;> cases Y c k <;> rfl
  · show L_M_isSecond_4 s a (nI c) _ (f + 1) z (nI c) = _
    rw [L_M_isSecond_4, if_pos (j_le (Nat.le_refl _) (by omega))]
  · rw [bI_jz]; rfl
theorem M_hasBelow {nc : Nat} (hn : nc ≤ 20) {Y : Nat → Nat → Bool} {P : Nat → Bool} {s : jS} {a : jB} (hs : s 1 = nI nc) (hB : MB nc Y s a) (hP : MP P a) {c : Nat} (hc : c < nc) : m_M_hasBelow s a (nI c) = some (bI (hbB nc P Y c)) := by
  unfold m_M_hasBelow
  refine (lp_any (fun f z y => L_M_hasBelow_4 s a (nI c) (fun x6 => jg (jz x6) (some x6)) f z y) (fun k => P k && dirB nc P Y k c) nc (by omega) (fun x6 => jg (jz x6) (some x6)) false (fun f k b hk => ?_) (fun f z => ?_)).trans ?_
  · show L_M_hasBelow_4 s a (nI c) _ (f + 1) (bI b) (nI k) = _
    rw [L_M_hasBelow_4, hs, if_neg (j_lt hk (by omega)), jg_nI (by omega) (by decide), nI_clamp (by omega), hP k (by omega), M_isDirect hn hs hB hP (Or.inl hk) hc, jb_s, nI_1]
    cases b <;> cases P k <;> cases dirB nc P Y k c <;> rfl
  · show L_M_hasBelow_4 s a (nI c) _ (f + 1) z (nI nc) = _
    rw [L_M_hasBelow_4, hs, if_pos (j_le (Nat.le_refl _) (by omega))]
  · rw [bI_jz]; rfl
/-- the class's -/
def Yb (a : jB) : Nat → Nat → Bool := fun i j => bt (a 7 i) j
theorem Yb_iff {a : jB} {i j : Nat} (hi : i < 21) : Yb a i j = true ↔ Yx a i j := by unfold Yb Yx; simp [hi]
def XP (P : Nat → Bool) (s : jS) : Prop := s 9 = bs P 20
theorem a7_big {nc : Nat} (hn : nc ≤ 20) {a : jB} (hs : Xs nc a) {i j : Nat} (hi : i < 21) (hj : 21 ≤ j) : bt (a 7 i) j = false := by
  cases e : bt (a 7 i) j with
  | false => rfl
  | true => have := hr_lt hn (hs.2.2.1 i j ⟨hi, e⟩).2; omega
theorem a8_big {nc : Nat} {a : jB} (hs : Xs nc a) {i j : Nat} (hi : i < 21) (hj : 21 ≤ j) : bt (a 8 i) j = false := by
  cases e : bt (a 8 i) j with
  | false => rfl
  | true => have := hs.2.1 i j hi e; omega
theorem x_sAbove {nc : Nat} (hn : nc ≤ 20) {s : jS} {a : jB} (hs : Xs nc a) {i : Nat} (hi : i < 21) : m_XK_strictlyAbove s a (nI i) = some (bs (undB (Yb a) i) 21) := by
  unfold m_XK_strictlyAbove
  rw [jg_nI hi (by decide), jg_nI hi (by decide), nI_clamp (by omega)]
  congr 1
  refine bs_eq (by decide) (fun j hj => ?_)
  rw [b_and, b_not _ hj]
  by_cases h : j < 21
  · rw [hs.1 j i h hi, decide_eq_true h, Bool.true_and]; rfl
  · rw [a7_big hn hs hi (by omega), decide_eq_false h]; rfl
theorem x_sBelow {nc : Nat} (hn : nc ≤ 20) {s : jS} {a : jB} (hs : Xs nc a) {i : Nat} (hi : i < 21) : m_XK_strictlyBelow s a (nI i) = some (bs (fun j => undB (Yb a) j i) 21) := by
  unfold m_XK_strictlyBelow
  rw [jg_nI hi (by decide), jg_nI hi (by decide), nI_clamp (by omega)]
  congr 1
  refine bs_eq (by decide) (fun j hj => ?_)
  rw [b_and, b_not _ hj]
  by_cases h : j < 21
  · rw [hs.1 j i h hi, decide_eq_true h, Bool.true_and]; rfl
  · rw [a8_big hs hi (by omega), decide_eq_false h]; rfl
theorem x_same {nc : Nat} (hn : nc ≤ 20) {s : jS} {a : jB} (hs : Xs nc a) {i : Nat} (hi : i < 21) : m_XK_sameAs s a (nI i) = some (bs (fun j => Yb a i j && Yb a j i) 21) := by
  unfold m_XK_sameAs
  rw [jg_nI hi (by decide), jg_nI hi (by decide), nI_clamp (by omega)]
  congr 1
  refine bs_eq (by decide) (fun j hj => ?_)
  rw [b_and]
  by_cases h : j < 21
  · rw [hs.1 j i h hi, decide_eq_true h, Bool.true_and]; rfl
  · rw [a7_big hn hs hi (by omega), decide_eq_false h]; rfl
theorem and_z {z w : Int32} : (z &&& w) = 0 ↔ ∀ i, i < 32 → bt z i = true → bt w i = true → False := by
  rw [b_z]
  constructor
  · intro h i hi h1 h2
    have := h i hi
    rw [b_and, h1, h2] at this
    cases this
  · intro h i hi
    rw [b_and]
    cases e1 : bt z i with
    | false => rfl
    | true =>
      cases e2 : bt w i with
      | false => rfl
      | true => exact absurd e2 (fun q => h i hi e1 q)
theorem dirB_iff {nc : Nat} {P : Nat → Bool} {Y : Nat → Nat → Bool} {i j : Nat} : dirB nc P Y i j = true ↔ P j = true ∧ undB Y i j = true ∧ ∀ k, k < nc → P k = true → undB Y i k = true → undB Y k j = true → False := by
  unfold dirB
  rw [Bool.and_eq_true, Bool.and_eq_true, allB_iff, and_assoc]
  refine and_congr Iff.rfl (and_congr Iff.rfl ?_)
  constructor
  · intro h k hk h1 h2 h3
    have := h k hk
    rw [h1, h2, h3] at this
    cases this
  · intro h k hk
    cases h1 : P k with
    | false => rfl
    | true =>
      cases h2 : undB Y i k with
      | false => rfl
      | true =>
        cases h3 : undB Y k j with
        | false => rfl
        | true => exact absurd h3 (fun q => h k hk h1 h2 q)
theorem x_dAbove {nc : Nat} (hn : nc ≤ 20) {P : Nat → Bool} {s : jS} {a : jB} (hs : Xs nc a) (hP : XP P s) (hPn : ∀ c, P c = true → c < nc) {i : Nat} (hi : i < 21) : m_XO_directlyAbove s a (nI i) = some (bs (dirB nc P (Yb a) i) 20) := by
  unfold m_XO_directlyAbove
  rw [x_sAbove hn hs hi, jb_s, hP]
  generalize hc2 : bs (undB (Yb a) i) 21 &&& bs P 20 = c2
  have b2 : ∀ k, bt c2 k = true ↔ k < 20 ∧ undB (Yb a) i k = true ∧ P k = true := by
    intro k
    rw [← hc2, b_and, b_bs _ (by decide), b_bs _ (by decide)]
    simp only [Bool.and_eq_true, decide_eq_true_eq]
    constructor
    · rintro ⟨⟨_, q1⟩, q2, q3⟩; exact ⟨q2, q1, q3⟩
    · rintro ⟨q1, q2, q3⟩; exact ⟨⟨by omega, q2⟩, q1, q3⟩
  refine lp_set (fun f z y => L_XO_directlyAbove_19 s a c2 (fun x9 => some x9) f z y) (dirB nc P (Yb a) i) 20 (by decide) (fun z => some z) (fun f k z hk => ?_) (fun f z => ?_)
  · show L_XO_directlyAbove_19 s a c2 _ (f + 1) z (nI k) = _
    rw [L_XO_directlyAbove_19, if_neg (show ¬ (20 : Int32) ≤ nI k from j_lt (n := 20) hk (by decide)), x_has _ (by omega), jb_s, x_sBelow hn hs (by omega), jb_s, x_bit, jb_s, nI_1]
    have zz : (c2 &&& bs (fun j => undB (Yb a) j k) 21) = 0 ↔ ∀ m, m < nc → P m = true → undB (Yb a) i m = true → undB (Yb a) m k = true → False := by
      rw [and_z]
      constructor
      · intro h m hm h1 h2 h3
        exact h m (by omega) ((b2 m).mpr ⟨by omega, h2, h1⟩) (by rw [b_bs _ (by decide), decide_eq_true (show m < 21 by omega)]; exact h3)
      · intro h m _ h1 h2
        obtain ⟨q1, q2, q3⟩ := (b2 m).mp h1
        rw [b_bs _ (by decide), decide_eq_true (show m < 21 by omega)] at h2
        exact h m (hPn m q3) q3 q2 h2
    cases hb : bt c2 k with
    | false =>
      rw [if0f]
      have : ¬ dirB nc P (Yb a) i k = true := fun q => by
        rw [dirB_iff] at q
        have := (b2 k).mpr ⟨hk, q.2.1, q.1⟩
        rw [hb] at this; cases this
      rw [if_neg this]
    | true =>
      rw [if0t]
      obtain ⟨q1, q2, q3⟩ := (b2 k).mp hb
      by_cases h : (c2 &&& bs (fun j => undB (Yb a) j k) 21) = 0
      · rw [if_pos h, if_pos (dirB_iff.mpr ⟨q3, q2, zz.mp h⟩)]
      · rw [if_neg h, if_neg (fun q => h (zz.mpr (dirB_iff.mp q).2.2))]
  · show L_XO_directlyAbove_19 s a c2 _ (f + 1) z (nI 20) = _
    rw [L_XO_directlyAbove_19, if_pos (show (20 : Int32) ≤ nI 20 by decide)]
theorem x_dBelow {nc : Nat} (hn : nc ≤ 20) {P : Nat → Bool} {s : jS} {a : jB} (hs : Xs nc a) (hP : XP P s) (hPn : ∀ c, P c = true → c < nc) {i : Nat} (hi : i < 21) (hPi : P i = true) : m_XO_directlyBelow s a (nI i) = some (bs (fun j => P j && dirB nc P (Yb a) j i) 20) := by
  unfold m_XO_directlyBelow
  rw [x_sBelow hn hs hi, jb_s, hP]
  generalize hc2 : bs (fun j => undB (Yb a) j i) 21 &&& bs P 20 = c2
  have b2 : ∀ k, bt c2 k = true ↔ k < 20 ∧ undB (Yb a) k i = true ∧ P k = true := by
    intro k
    rw [← hc2, b_and, b_bs _ (by decide), b_bs _ (by decide)]
    simp only [Bool.and_eq_true, decide_eq_true_eq]
    constructor
    · rintro ⟨⟨_, q1⟩, q2, q3⟩; exact ⟨q2, q1, q3⟩
    · rintro ⟨q1, q2, q3⟩; exact ⟨⟨by omega, q2⟩, q1, q3⟩
  refine lp_set (fun f z y => L_XO_directlyBelow_19 s a c2 (fun x9 => some x9) f z y) (fun j => P j && dirB nc P (Yb a) j i) 20 (by decide) (fun z => some z) (fun f k z hk => ?_) (fun f z => ?_)
  · show L_XO_directlyBelow_19 s a c2 _ (f + 1) z (nI k) = _
    rw [L_XO_directlyBelow_19, if_neg (show ¬ (20 : Int32) ≤ nI k from j_lt (n := 20) hk (by decide)), x_has _ (by omega), jb_s, x_sAbove hn hs (by omega), jb_s, x_bit, jb_s, nI_1]
    have zz : (c2 &&& bs (undB (Yb a) k) 21) = 0 ↔ ∀ m, m < nc → P m = true → undB (Yb a) k m = true → undB (Yb a) m i = true → False := by
      rw [and_z]
      constructor
      · intro h m hm h1 h2 h3
        exact h m (by omega) ((b2 m).mpr ⟨by omega, h3, h1⟩) (by rw [b_bs _ (by decide), decide_eq_true (show m < 21 by omega)]; exact h2)
      · intro h m _ h1 h2
        obtain ⟨q1, q2, q3⟩ := (b2 m).mp h1
        rw [b_bs _ (by decide), decide_eq_true (show m < 21 by omega)] at h2
        exact h m (hPn m q3) q3 h2 q2
    cases hb : bt c2 k with
    | false =>
      rw [if0f]
      have : ¬ (P k && dirB nc P (Yb a) k i) = true := fun q => by
        rw [Bool.and_eq_true, dirB_iff] at q
        have := (b2 k).mpr ⟨hk, q.2.2.1, q.1⟩
        rw [hb] at this; cases this
      rw [if_neg this]
    | true =>
      rw [if0t]
      obtain ⟨q1, q2, q3⟩ := (b2 k).mp hb
      by_cases h : (c2 &&& bs (undB (Yb a) k) 21) = 0
      · rw [if_pos h, if_pos (by rw [Bool.and_eq_true]; exact ⟨q3, dirB_iff.mpr ⟨hPi, q2, zz.mp h⟩⟩)]
      · rw [if_neg h, if_neg (fun q => by rw [Bool.and_eq_true] at q; exact h (zz.mpr (dirB_iff.mp q.2).2.2))]
  · show L_XO_directlyBelow_19 s a c2 _ (f + 1) z (nI 20) = _
    rw [L_XO_directlyBelow_19, if_pos (show (20 : Int32) ≤ nI 20 by decide)]
theorem b_low : ∀ n, n < 20 → ∀ i, i < 32 → bt (b1 n - 1) i = decide (i < n) := by decide +kernel
theorem x_first {nc : Nat} (hn : nc ≤ 20) {P : Nat → Bool} {s : jS} {a : jB} (hs : Xs nc a) (hP : XP P s) (w : Nat → Bool) : m_XO_firstOfSame s a (bs w 20) = some (bs (fun j => w j && !secB P (Yb a) j) 20) := by
  unfold m_XO_firstOfSame
  refine lp_set (fun f z y => L_XO_firstOfSame_4 s a (bs w 20) (fun x9 => some x9) f z y) (fun j => w j && !secB P (Yb a) j) 20 (by decide) (fun z => some z) (fun f k z hk => ?_) (fun f z => ?_)
  · show L_XO_firstOfSame_4 s a _ _ (f + 1) z (nI k) = _
    rw [L_XO_firstOfSame_4, if_neg (show ¬ (20 : Int32) ≤ nI k from j_lt (n := 20) hk (by decide)), x_has _ (by omega), jb_s, x_same hn hs (by omega), jb_s, x_bit, jb_s, jb_s, nI_1, b_bs _ (by decide), decide_eq_true hk, Bool.true_and, hP]
    cases hw : w k with
    | false => rw [if0f]; simp
    | true =>
      rw [if0t]
      have zz : (bs (fun j => Yb a k j && Yb a j k) 21 &&& bs P 20 &&& (b1 k - 1)) = 0 ↔ secB P (Yb a) k = false := by
        rw [and_z]
        constructor
        · intro h
          cases e : secB P (Yb a) k with
          | false => rfl
          | true =>
            obtain ⟨m, hm, q⟩ := anyB_iff.mp e
            simp only [Bool.and_eq_true] at q
            refine absurd (h m (by omega) ?_ ?_) id
            · rw [b_and, b_bs _ (by decide), b_bs _ (by decide), decide_eq_true (show m < 21 by omega), decide_eq_true (show m < 20 by omega), q.1, q.2.1, q.2.2]; rfl
            · rw [b_low k hk m (by omega)]; exact decide_eq_true hm
        · intro h m hm h1 h2
          rw [b_low k hk m hm, decide_eq_true_eq] at h2
          rw [b_and, b_bs _ (by decide), b_bs _ (by decide)] at h1
          simp only [Bool.and_eq_true] at h1
          have : secB P (Yb a) k = true := anyB_iff.mpr ⟨m, h2, by simp only [Bool.and_eq_true]; exact ⟨h1.2.2, h1.1.2.2, h1.1.2.1⟩⟩
          rw [h] at this; cases this
      cases hsec : secB P (Yb a) k with
      | false => rw [if_pos (zz.mpr hsec)]; simp
      | true => rw [if_neg (fun q => by rw [zz.mp q] at hsec; cases hsec)]; simp
  · show L_XO_firstOfSame_4 s a _ _ (f + 1) z (nI 20) = _
    rw [L_XO_firstOfSame_4, if_pos (show (20 : Int32) ≤ nI 20 by decide)]
theorem x_lowAmong {nc : Nat} (hn : nc ≤ 20) {P : Nat → Bool} {s : jS} {a : jB} (hs : Xs nc a) (hP : XP P s) (hPn : ∀ c, P c = true → c < nc) {w : Int32} {W : Nat → Bool} (hW : ∀ c, c < 20 → bt w c = W c) : m_XO_lowestAmong s a w = some (bs (fun j => (W j && P j) && !anyB (fun k => (P k && dirB nc P (Yb a) k j) && W k) nc) 20) := by
  unfold m_XO_lowestAmong
  refine lp_set (fun f z y => L_XO_lowestAmong_4 s a w (fun x9 => some x9) f z y) (fun j => (W j && P j) && !anyB (fun k => (P k && dirB nc P (Yb a) k j) && W k) nc) 20 (by decide) (fun z => some z) (fun f k z hk => ?_) (fun f z => ?_)
  · show L_XO_lowestAmong_4 s a _ _ (f + 1) z (nI k) = _
    rw [L_XO_lowestAmong_4, if_neg (show ¬ (20 : Int32) ≤ nI k from j_lt (n := 20) hk (by decide)), x_has _ (by omega), jb_s, nI_1, b_and, hP, b_bs _ (by decide), decide_eq_true hk, Bool.true_and, hW k hk]
    cases hw : (W k && P k) with
    | false => rw [if0f]; simp
    | true =>
      have hPk : P k = true := by rw [Bool.and_eq_true] at hw; exact hw.2
      rw [if0t, x_dBelow hn hs hP hPn (by omega) hPk, jb_s, x_bit, jb_s]
      have zz : (bs (fun j => P j && dirB nc P (Yb a) j k) 20 &&& w) = 0 ↔ anyB (fun m => (P m && dirB nc P (Yb a) m k) && W m) nc = false := by
        rw [and_z]
        constructor
        · intro h
          cases e : anyB (fun m => (P m && dirB nc P (Yb a) m k) && W m) nc with
          | false => rfl
          | true =>
            obtain ⟨m, hm, q⟩ := anyB_iff.mp e
            rw [Bool.and_eq_true] at q
            refine absurd (h m (by omega) ?_ ?_) id
            · rw [b_bs _ (by decide), decide_eq_true (show m < 20 by omega)]; exact q.1
            · rw [hW m (by omega)]; exact q.2
        · intro h m hm h1 h2
          rw [b_bs _ (by decide), Bool.and_eq_true, decide_eq_true_eq] at h1
          rw [hW m h1.1] at h2
          have hp : P m = true := by have := h1.2; rw [Bool.and_eq_true] at this; exact this.1
          have : anyB (fun m => (P m && dirB nc P (Yb a) m k) && W m) nc = true := anyB_iff.mpr ⟨m, hPn m hp, by rw [Bool.and_eq_true]; exact ⟨h1.2, h2⟩⟩
          rw [h] at this; cases this
      cases hany : anyB (fun m => (P m && dirB nc P (Yb a) m k) && W m) nc with
      | false => rw [if_pos (zz.mpr hany)]; simp
      | true => rw [if_neg (fun q => by rw [zz.mp q] at hany; cases hany)]; simp
  · show L_XO_lowestAmong_4 s a _ _ (f + 1) z (nI 20) = _
    rw [L_XO_lowestAmong_4, if_pos (show (20 : Int32) ≤ nI 20 by decide)]

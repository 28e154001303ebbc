/-! the reference: reads -/
def MA (s : jS) (a : jB) (nc : Nat) (x : jAx) : Prop :=
  s 1 = nI nc ∧ nc ≤ 20 ∧ s 3 = nI x.1 ∧ x.1 ≤ 40 ∧ ∀ k, k < x.1 → a 1 k = nI (x.2.1 k) ∧ x.2.1 k < nc ∧ a 2 k = (if x.2.2.1 k = 20 then -1 else nI (x.2.2.1 k)) ∧ (x.2.2.1 k < nc ∨ x.2.2.1 k = 20) ∧ a 3 k = nI (x.2.2.2.1 k) ∧ hr nc (x.2.2.2.1 k) ∧ a 4 k = bI (x.2.2.2.2 k)
theorem lt0_iff (p : Int32) : p < 0 ↔ p.toInt < 0 := by rw [Int32.lt_iff_toInt_lt]; rfl
theorem nIle_iff {n : Nat} (hn : n < 2 ^ 31) (p : Int32) : nI n ≤ p ↔ (n : Int) ≤ p.toInt := by rw [Int32.le_iff_toInt_le, nI_toInt hn]
theorem nIlt_iff {n : Nat} (hn : n < 2 ^ 31) (p : Int32) : p < nI n ↔ p.toInt < (n : Int) := by rw [Int32.lt_iff_toInt_lt, nI_toInt hn]
theorem jin_f {p : Int32} {n : Nat} (h : jin p n = false) : p.toInt < 0 ∨ (n : Int) ≤ p.toInt := by
  unfold jin at h
  simp only [Bool.and_eq_false_iff, decide_eq_false_iff_not] at h
  omega
theorem jin_t {p : Int32} {n : Nat} (h : jin p n = true) : 0 ≤ p.toInt ∧ p.toInt < (n : Int) := by
  unfold jin at h
  simp only [Bool.and_eq_true, decide_eq_true_eq] at h
  exact h
theorem jin_ex {p : Int32} {n : Nat} (hn : n < 2 ^ 31) (h : jin p n = true) : ∃ i, i < n ∧ p = nI i := vp_in_of (jin_in h) hn
theorem M_isClass {s : jS} {a : jB} {nc : Nat} (hs : s 1 = nI nc) (hn : nc ≤ 20) (p : Int32) : m_M_isClass s a p = some (bI (jin p nc)) := by
  unfold m_M_isClass
  rw [hs]
  cases h : jin p nc with
  | true =>
    have := jin_t h
    rw [if_neg (by rw [lt0_iff]; omega), if_neg (by rw [nIle_iff (by omega)]; omega)]
    rfl
  | false =>
    rcases jin_f h with h | h
    · rw [if_pos ((lt0_iff p).mpr h)]; rfl
    · by_cases h0 : p < 0
      · rw [if_pos h0]; rfl
      · rw [if_neg h0, if_pos ((nIle_iff (by omega) p).mpr h)]; rfl
def hrB (nc j : Nat) : Bool := decide (j < nc) || decide (j = 20)
theorem hrB_iff {nc j : Nat} : hrB nc j = true ↔ hr nc j := by simp [hrB, hr]
theorem e20 {j : Nat} (hj : j < 2 ^ 31) : nI j = 20 ↔ j = 20 := nI_eq (b := 20) hj (by decide)
theorem M_isHere {s : jS} {a : jB} {nc : Nat} (hs : s 1 = nI nc) (hn : nc ≤ 20) {j : Nat} (hj : j < 21) : m_M_isHere s a (nI j) = some (bI (hrB nc j)) := by
  unfold m_M_isHere
  rw [hs]
  by_cases h1 : j < nc
  · rw [if_pos (nI_lt h1 (by omega))]
    simp [hrB, h1]; rfl
  · rw [if_neg (nI_nlt (by omega) (by omega))]
    by_cases h2 : j = 20
    · rw [if_pos ((e20 (by omega)).mpr h2)]
      simp [hrB, h2]; rfl
    · rw [if_neg (fun q => h2 ((e20 (by omega)).mp q))]
      simp [hrB, h1, h2]; rfl
def blw (f : Nat → Int32) (i j : Nat) : Bool := decide (i = 20) || decide (f (21 * i + j) = 1)
theorem jg_pair {α : Type} {i j : Nat} (hi : i < 20) (hj : j < 21) (x : Option α) : jg (jin ((21 : Int32) * nI i + nI j) 420) x = x := by
  rw [j_pair, jg_nI (by omega) (by decide)]
theorem cl_pair {i j : Nat} (hi : i < 20) (hj : j < 21) : ((21 : Int32) * nI i + nI j).toNatClampNeg = 21 * i + j := by
  rw [j_pair, nI_clamp (by omega)]
theorem M_below {s : jS} {a : jB} {i j : Nat} (hi : i < 21) (hj : j < 21) : m_M_below s a (nI i) (nI j) = some (bI (blw (a 6) i j)) := by
  unfold m_M_below
  by_cases h : i = 20
  · rw [if_pos ((e20 (by omega)).mpr h)]
    simp [blw, h]; rfl
  · rw [if_neg (fun q => h ((e20 (by omega)).mp q)), jg_pair (by omega) hj, cl_pair (by omega) hj]
    by_cases h2 : a 6 (21 * i + j) = 1
    · rw [if_pos h2]; simp [blw, h2]; rfl
    · rw [if_neg h2]; simp [blw, h, h2]; rfl
theorem M_isItself {s : jS} {a : jB} {nc : Nat} {x : jAx} (hA : MA s a nc x) {i j : Nat} (hi : i < 21) (hj : j < 21) : m_M_isItself s a (nI i) (nI j) = some (bI (selfB x i j)) := by
  obtain ⟨h1, h2, h3, h4, hk⟩ := hA
  have e0 : (if nI i = nI j then some (1 : Int32) else some 0) = some (bI (decide (i = j))) := by
    by_cases h : i = j
    · subst h; simp [bI]
    · rw [if_neg (fun q => h ((nI_eq (by omega) (by omega)).mp q))]; simp [bI, h]
  unfold m_M_isItself
  rw [e0, jb_s, show bI (decide (i = j)) = bI (decide (i = j) || anyB (selfP x i j) 0) by simp [anyB]]
  refine (lp_up0 (fun f st z => L_M_isItself_14 s a (nI i) (nI j) (fun x3 => jg (jz x3) (some x3)) f st z) (fun k => bI (decide (i = j) || anyB (selfP x i j) k)) x.1 (fun x3 => jg (jz x3) (some x3)) (by omega) ?_ ?_).trans ?_
  · intro f k hkk
    obtain ⟨q1, q2, q3, q4, q5, q6, q7⟩ := hk k hkk
    rw [L_M_isItself_14, h3, if_neg (j_lt hkk (by omega)), nI_1]
    simp only [jg_nI (show k < 40 by omega) (show 40 < 2 ^ 31 by decide), nI_clamp (show k < 2 ^ 31 by omega), q1, q3, q5, q7]
    have key : (if bI (decide (i = j) || anyB (selfP x i j) k) = 0 then (if bI (x.2.2.2.2 k) = 0 then some 0 else if nI (x.2.1 k) = nI i then (if (if x.2.2.1 k = 20 then (-1 : Int32) else nI (x.2.2.1 k)) = -1 then (if nI (x.2.2.2.1 k) = nI j then some 1 else some 0) else some 0) else some 0) else some (1 : Int32)) = some (bI (decide (i = j) || anyB (selfP x i j) (k + 1))) := by
      rw [anyB]
      generalize anyB (selfP x i j) k = u
      unfold selfP
      have r1 : nI (x.2.1 k) = nI i ↔ x.2.1 k = i := nI_eq (by omega) (by omega)
      have r2 : nI (x.2.2.2.1 k) = nI j ↔ x.2.2.2.1 k = j := nI_eq (by have := hr_lt h2 q6; omega) (by omega)
      have r3 : (if x.2.2.1 k = 20 then (-1 : Int32) else nI (x.2.2.1 k)) = -1 ↔ x.2.2.1 k = 20 := by
        split
        · simp [*]
        · rename_i q
          simp only [q, iff_false]
          intro e
          have : ¬ nI (x.2.2.1 k) < 0 := nI_pos (by omega)
          rw [e] at this
          exact this (by decide)
      simp only [r1, r2, r3, bI_z]
      cases decide (i = j) <;> cases u <;> cases x.2.2.2.2 k <;> simp [bI]
      by_cases a1 : x.2.1 k = i <;> by_cases a2 : x.2.2.1 k = 20 <;> by_cases a3 : x.2.2.2.1 k = j <;> simp [a1, a2, a3]
    rw [key, jb_s]
  · intro f
    rw [L_M_isItself_14, h3, if_pos (j_le (Nat.le_refl _) (by omega))]
  · show jg (jz (bI (selfB x i j))) _ = _
    rw [bI_jz]; rfl

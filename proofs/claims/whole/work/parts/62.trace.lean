/-! trace -/
/-- how the fired axioms stand to one another -/
def PW (x : jAx) (l : List Nat) : Prop := ∀ (j m kj km : Nat), l[j]? = some kj → l[m]? = some km → (j < m → x.2.2.2.1 km ≠ x.2.2.2.1 kj) ∧ (j ≤ m → x.2.2.2.1 km ≠ x.2.1 kj ∧ (x.2.2.1 kj ≠ 20 → x.2.2.2.1 km ≠ x.2.2.1 kj))
def GL (x : jAx) (F : Nat → Bool) (l : List Nat) : Prop := ∀ k, k ∈ l → F (x.2.1 k) = true ∧ (x.2.2.1 k ≠ 20 → F (x.2.2.1 k) = true) ∧ F (x.2.2.2.1 k) = true
theorem get_app {l : List Nat} {k j m : Nat} (h : (l ++ [k])[j]? = some m) : (j = l.length ∧ m = k) ∨ (j < l.length ∧ l[j]? = some m) := by
  have hlt : j < (l ++ [k]).length := (List.getElem?_eq_some_iff.mp h).1
  rw [List.length_append] at hlt
  have hlt : j < l.length + 1 := hlt
  by_cases e : j = l.length
  · left
    subst e
    rw [List.getElem?_append_right (Nat.le_refl _), Nat.sub_self] at h
    injection h with h
    exact ⟨rfl, h.symm⟩
  · right
    rw [List.getElem?_append_left (by omega)] at h
    exact ⟨by omega, h⟩
theorem rsn_pw (x : jAx) (g : Nat) : ∀ (d : Nat) (F : Nat → Bool) (l : List Nat), GL x F l → PW x l → PW x (rsn x g d F l).2.2 ∧ (rsn x g d F l).2.2.length ≤ l.length + d := by
  intro d
  induction d with
  | zero =>
    intro F l h1 h2
    rw [rsn]
    split
    · exact ⟨h2, Nat.le_refl _⟩
    · split <;> exact ⟨h2, Nat.le_refl _⟩
  | succ d ih =>
    intro F l h1 h2
    rw [rsn]
    split
    · exact ⟨h2, by show l.length ≤ _; omega⟩
    · cases hf : fstB (canB x F) x.1 with
      | none => exact ⟨h2, by dsimp only; omega⟩
      | some k =>
        dsimp only
        obtain ⟨q1, q2, q3⟩ := (fstB_spec _ _).1 k hf
        unfold canB at q2
        simp only [Bool.and_eq_true, Bool.or_eq_true, decide_eq_true_eq, Bool.not_eq_true'] at q2
        obtain ⟨r1, r2, r3, r4⟩ := q2
        have hk : F (x.2.1 k) = true ∧ (x.2.2.1 k ≠ 20 → F (x.2.2.1 k) = true) := ⟨r2, fun h => r3.resolve_left h⟩
        have ne : ∀ c, F c = true → x.2.2.2.1 k ≠ c := fun c hc e => by rw [e, hc] at r4; cases r4
        have := ih (insB F (x.2.2.2.1 k)) (l ++ [k]) ?_ ?_
        · rw [List.length_append] at this
          have e : l.length + [k].length + d = l.length + (d + 1) := by
            rw [List.length_singleton]; omega
          rw [e] at this
          exact this
        · intro m hm
          have up : ∀ c, F c = true → insB F (x.2.2.2.1 k) c = true := fun c hc => by unfold insB; rw [hc]; rfl
          rcases List.mem_append.mp hm with h | h
          · obtain ⟨z1, z2, z3⟩ := h1 m h
            exact ⟨up _ z1, fun w => up _ (z2 w), up _ z3⟩
          · rw [List.mem_singleton] at h
            subst h
            exact ⟨up _ hk.1, fun w => up _ (hk.2 w), by simp [insB]⟩
        · intro j m kj km hj hm
          rcases get_app hm with ⟨m1, m2⟩ | ⟨m1, m2⟩
          · subst m2
            rcases get_app hj with ⟨j1, j2⟩ | ⟨j1, j2⟩
            · subst j2
              exact ⟨fun h => by omega, fun _ => ⟨ne _ hk.1, fun w => ne _ (hk.2 w)⟩⟩
            · obtain ⟨z1, z2, z3⟩ := h1 kj (List.mem_iff_getElem?.mpr ⟨j, j2⟩)
              exact ⟨fun _ => ne _ z3, fun _ => ⟨ne _ z1, fun w => ne _ (z2 w)⟩⟩
          · rcases get_app hj with ⟨j1, j2⟩ | ⟨j1, j2⟩
            · exact ⟨fun h => by omega, fun h => by omega⟩
            · exact h2 j m kj km j2 m2
def FK (x : jAx) (n : Nat) (K : Nat → Nat) : Prop := (∀ m, m < n → K m < x.1) ∧ (∀ j m, j < n → m < n → (j < m → x.2.2.2.1 (K m) ≠ x.2.2.2.1 (K j)) ∧ (j ≤ m → x.2.2.2.1 (K m) ≠ x.2.1 (K j) ∧ (x.2.2.1 (K j) ≠ 20 → x.2.2.2.1 (K m) ≠ x.2.2.1 (K j))))
def lfB (x : jAx) (k c : Nat) : Bool := decide (c = x.2.1 k) || (!decide (x.2.2.1 k = 20) && decide (c = x.2.2.1 k))
def wt (x : jAx) (n : Nat) (K : Nat → Nat) : Nat → Nat → Bool
  | 0 => fun c => decide (c = x.2.2.2.1 (K (n - 1)))
  | e + 1 => fun c => wt x n K e c || (wt x n K e (x.2.2.2.1 (K (n - 1 - e))) && lfB x (K (n - 1 - e)) c)
theorem FK_inj {x : jAx} {n : Nat} {K : Nat → Nat} (h : FK x n K) {j m : Nat} (hj : j < n) (hm : m < n) (e : x.2.2.2.1 (K m) = x.2.2.2.1 (K j)) : m = j := by
  rcases Nat.lt_trichotomy j m with w | w | w
  · exact absurd e ((h.2 j m hj hm).1 w)
  · exact w.symm
  · exact absurd e.symm ((h.2 m j hm hj).1 w)
/-- what was passed stays as it is -/
theorem wt_stay {x : jAx} {n : Nat} {K : Nat → Nat} (h : FK x n K) {e m : Nat} (he : e < n) (hm : m < n) (hme : n - 1 - e ≤ m) : wt x n K (e + 1) (x.2.2.2.1 (K m)) = wt x n K e (x.2.2.2.1 (K m)) := by
  rw [wt]
  have : lfB x (K (n - 1 - e)) (x.2.2.2.1 (K m)) = false := by
    obtain ⟨q1, q2⟩ := (h.2 (n - 1 - e) m (by omega) hm).2 hme
    unfold lfB
    rw [decide_eq_false q1, Bool.false_or]
    by_cases w : x.2.2.1 (K (n - 1 - e)) = 20
    · rw [decide_eq_true w]; rfl
    · rw [decide_eq_false (q2 w), Bool.and_false]
  dsimp only
  rw [this, Bool.and_false, Bool.or_false]
theorem bs_lf {nc : Nat} (hn : nc ≤ 20) {x : jAx} (hw : Axw nc x) {k : Nat} (hk : k < x.1) (ht : x.2.2.2.2 k = true) (w : Nat → Bool) : bs w 21 ||| lfI x k = bs (fun c => w c || lfB x k c) 21 := by
  obtain ⟨w1, w2, w3, w4⟩ := hw k hk
  refine bs_eq (by decide) (fun i hi => ?_)
  rw [b_or, b_bs _ (by decide), Bool.eq_iff_iff]
  have := b_lfI hn hw hk i
  simp only [Bool.or_eq_true, Bool.and_eq_true, decide_eq_true_eq, this, ht, true_and, lfB, Bool.not_eq_true', decide_eq_false_iff_not]
  constructor
  · rintro (⟨h1, h2⟩ | h | ⟨h1, h2⟩)
    · exact ⟨h1, Or.inl h2⟩
    · exact ⟨by omega, Or.inr (Or.inl h)⟩
    · exact ⟨by omega, Or.inr (Or.inr ⟨h1, h2⟩)⟩
  · rintro ⟨h1, h2 | h2 | h2⟩
    · exact Or.inl ⟨h1, h2⟩
    · exact Or.inr (Or.inl h2)
    · exact Or.inr (Or.inr h2)
theorem x_needed {nc : Nat} (hn : nc ≤ 20) {s : jS} {a : jB} {x : jAx} (hw : Axw nc x) (hA : XA s a x) {n : Nat} {K : Nat → Nat} (hK : FK x n K) (hth : ∀ m, m < n → x.2.2.2.2 (K m) = true) (hn20 : n ≤ 20) (h7 : s 7 = nI n) (h5 : ∀ m, m < n → a 5 m = nI (K m)) :
    ∃ z, m_XR_neededSteps s a = some z ∧ (∀ m, bt z m = true ↔ m < n ∧ wt x n K n (x.2.2.2.1 (K m)) = true) := by
  have h40 := hA.2.1
  unfold m_XR_neededSteps
  rw [h7]
  by_cases h0 : n = 0
  · subst h0
    rw [if_pos (by decide), jb_s]
    refine ⟨0, ?_, fun m => by rw [b_0]; simp⟩
    show L_XR_neededSteps_42 s a _ (4095 + 1) 0 0 (-1) = _
    rw [L_XR_neededSteps_42, if_pos (by decide)]
  · obtain ⟨n', rfl⟩ : ∃ m, n = m + 1 := ⟨n - 1, by omega⟩
    have hr21 : ∀ m, m < n' + 1 → x.2.2.2.1 (K m) < 21 := fun m hm => hr_lt hn (hw _ (hK.1 m hm)).2.2.1
    have hk40 : ∀ m, m < n' + 1 → K m < 40 := fun m hm => by have := hK.1 m hm; omega
    rw [if_neg (show ¬ nI (n' + 1) ≤ (0 : Int32) by show ¬ nI (n' + 1) ≤ nI 0; exact j_lt (by omega) (by omega)), nI_pred, jg_nI (by omega) (by decide), nI_clamp (by omega), h5 n' (by omega), x_rightOf hA (by have := hk40 n' (by omega); omega), if_pos (hK.1 n' (by omega)), jb_s, x_bit, jb_s, jb_s, bs_one (hr21 n' (by omega))]
    have key := lp_dn (fun f (st : Int32 × Int32) y => L_XR_neededSteps_42 s a (fun x10 => some x10) f st.1 st.2 y) (fun k st => k ≤ n' + 1 ∧ st.2 = bs (wt x (n' + 1) K (n' + 1 - k)) 21 ∧ ∀ m, bt st.1 m = true ↔ k ≤ m ∧ m < n' + 1 ∧ wt x (n' + 1) K (n' + 1 - k) (x.2.2.2.1 (K m)) = true) (fun o => ∃ z, o = some z ∧ (∀ m, bt z m = true ↔ m < n' + 1 ∧ wt x (n' + 1) K (n' + 1) (x.2.2.2.1 (K m)) = true)) ?_ ?_ (n' + 1) jF (0, bs (oneB (x.2.2.2.1 (K n'))) 21) (by unfold jF; omega) ?_
    · exact key
    · rintro f k ⟨z1, z2⟩ ⟨i0, i1, i2⟩
      have i1 : z2 = bs (wt x (n' + 1) K (n' + 1 - (k + 1))) 21 := i1
      have i2 : ∀ m, bt z1 m = true ↔ k + 1 ≤ m ∧ m < n' + 1 ∧ wt x (n' + 1) K (n' + 1 - (k + 1)) (x.2.2.2.1 (K m)) = true := i2
      left
      have hk : k < n' + 1 := by omega
      obtain ⟨e, he⟩ : ∃ e, e = n' + 1 - (k + 1) := ⟨_, rfl⟩
      rw [← he] at i1 i2
      have hek : n' + 1 - k = e + 1 := by omega
      have hke : n' + 1 - 1 - e = k := by omega
      have wst : ∀ m, k ≤ m → m < n' + 1 → wt x (n' + 1) K (e + 1) (x.2.2.2.1 (K m)) = wt x (n' + 1) K e (x.2.2.2.1 (K m)) := fun m h1 h2 => wt_stay hK (by omega) h2 (by omega)
      show ∃ st', _ ∧ L_XR_neededSteps_42 s a _ (f + 1) z1 z2 (nI k) = _
      rw [L_XR_neededSteps_42, if_neg (nI_pos (by omega)), jg_nI (by omega) (by decide), nI_clamp (by omega), h5 k hk, x_rightOf hA (by have := hk40 k hk; omega), if_pos (hK.1 k hk), jb_s, x_has _ (by have := hr21 k hk; omega), jb_s, x_bit, jb_s, jg_nI (by omega) (by decide), x_leftOf hA (by have := hk40 k hk; omega), if_pos (hK.1 k hk), jb_s, i1, b_bs _ (by decide), decide_eq_true (hr21 k hk), Bool.true_and, dn_add]
      cases hb : wt x (n' + 1) K e (x.2.2.2.1 (K k)) with
      | false =>
        rw [if0f]
        refine ⟨(z1, bs (wt x (n' + 1) K e) 21), ⟨by omega, ?_, ?_⟩, rfl⟩
        · show bs (wt x (n' + 1) K e) 21 = _
          rw [hek]
          refine bs_congr (fun i hi => ?_)
          rw [wt, hke, hb]; simp
        · intro m
          show bt z1 m = true ↔ _
          rw [i2, hek]
          constructor
          · rintro ⟨q1, q2, q3⟩; exact ⟨by omega, q2, by rw [wst m (by omega) q2]; exact q3⟩
          · rintro ⟨q1, q2, q3⟩
            rw [wst m q1 q2] at q3
            by_cases e2 : m = k
            · rw [e2, hb] at q3; cases q3
            · exact ⟨by omega, q2, q3⟩
      | true =>
        rw [if0t, bs_lf hn hw (hK.1 k hk) (hth k hk)]
        refine ⟨(z1 ||| b1 k, _), ⟨by omega, ?_, ?_⟩, rfl⟩
        · show bs (fun c => wt x (n' + 1) K e c || lfB x (K k) c) 21 = _
          rw [hek]
          refine bs_congr (fun i hi => ?_)
          rw [wt, hke, hb]; simp
        · intro m
          show bt (z1 ||| b1 k) m = true ↔ _
          rw [b_or, b_b1 (by omega), Bool.or_eq_true, decide_eq_true_eq, i2, hek]
          constructor
          · rintro (⟨q1, q2, q3⟩ | q)
            · exact ⟨by omega, q2, by rw [wst m (by omega) q2]; exact q3⟩
            · rw [q]; exact ⟨Nat.le_refl _, hk, by rw [wst k (Nat.le_refl _) hk]; exact hb⟩
          · rintro ⟨q1, q2, q3⟩
            rw [wst m q1 q2] at q3
            by_cases e2 : m = k
            · exact Or.inr e2
            · exact Or.inl ⟨by omega, q2, q3⟩
    · rintro f ⟨z1, z2⟩ ⟨i0, i1, i2⟩
      refine ⟨z1, ?_, fun m => ?_⟩
      · show L_XR_neededSteps_42 s a _ (f + 1) z1 z2 (-1) = _
        rw [L_XR_neededSteps_42, if_pos (by decide)]
      · rw [i2]; simp
    · refine ⟨Nat.le_refl _, ?_, fun m => ?_⟩
      · show bs (oneB (x.2.2.2.1 (K n'))) 21 = _
        rw [Nat.sub_self]
        rfl
      · show bt 0 m = true ↔ _
        rw [b_0]
        constructor
        · intro q; cases q
        · rintro ⟨q1, q2, -⟩; omega
def MK (x : jAx) (n : Nat) (K : Nat → Nat) (mk : Nat → Int32) : Prop := (∀ m, m < n → mk (x.2.2.2.1 (K m)) = nI (K m)) ∧ ∀ c, (∀ m, m < n → x.2.2.2.1 (K m) ≠ c) → mk c = -1
def setm (g : Nat → Int32) (v : Int32) : Nat → Int32 := if v < 0 then g else upd g v.toNatClampNeg 1
theorem set_mk {x : jAx} {n : Nat} {K : Nat → Nat} (hK : FK x n K) (h40 : x.1 ≤ 40) {mk : Nat → Int32} (hM : MK x n K mk) {g : Nat → Int32} {w : Nat → Bool} (hg : ∀ m, m < n → g (K m) = bI (w (x.2.2.2.1 (K m)))) (c : Nat) : ∀ m, m < n → setm g (mk c) (K m) = bI (w (x.2.2.2.1 (K m)) || decide (x.2.2.2.1 (K m) = c)) := by
  intro m hm
  unfold setm
  by_cases h : ∃ p, p < n ∧ x.2.2.2.1 (K p) = c
  · obtain ⟨p, hp, e⟩ := h
    have hkp := hK.1 p hp
    rw [← e, hM.1 p hp, if_neg (nI_pos (by omega)), nI_clamp (by omega)]
    by_cases e2 : K m = K p
    · rw [e2, upd_at, decide_eq_true rfl, Bool.or_true]; rfl
    · rw [upd_ne _ _ e2, hg m hm, decide_eq_false, Bool.or_false]
      intro q
      exact e2 (by rw [FK_inj hK hp hm q])
  · rw [hM.2 c (fun p hp e => h ⟨p, hp, e⟩), if_pos (by decide), hg m hm, decide_eq_false (fun q => h ⟨m, hm, q⟩), Bool.or_false]
theorem mk_in {x : jAx} {n : Nat} {K : Nat → Nat} (hK : FK x n K) (h40 : x.1 ≤ 40) {mk : Nat → Int32} (hM : MK x n K mk) (c : Nat) : mk c < 0 ∨ (¬ mk c < 0 ∧ jin (mk c) 40 = true) := by
  by_cases h : ∃ p, p < n ∧ x.2.2.2.1 (K p) = c
  · obtain ⟨p, hp, e⟩ := h
    have hkp := hK.1 p hp
    right
    rw [← e, hM.1 p hp]
    exact ⟨nI_pos (by omega), jin_nI (by omega) (by decide)⟩
  · left
    rw [hM.2 c (fun p hp e => h ⟨p, hp, e⟩)]
    decide
theorem M_needed {nc : Nat} {s : jS} {a : jB} {x : jAx} (hA : MA s a nc x) {n : Nat} {K : Nat → Nat} (hK : FK x n K) {mk : Nat → Int32} (hM : MK x n K mk) (hn20 : n ≤ 20) (h12 : ∀ m, m < n → a 12 m = nI (K m)) (h11 : ∀ c, c < 21 → a 11 c = mk c) (hw : Axw nc x) {g0 : Nat → Int32} (hg0 : ∀ m, m < n → g0 (K m) = bI (wt x n K 0 (x.2.2.2.1 (K m)))) (kk : jS → jB → Option (Int32 × jS × jB)) :
    ∃ g, (∀ m, m < n → g (K m) = bI (wt x n K n (x.2.2.2.1 (K m)))) ∧ L_M_trace_92 kk jF s (va_up a 13 g0) (dn n) = kk s (va_up a 13 g) := by
  have hn := hA.2.1
  have h40 := hA.2.2.2.1
  refine lp_dn (fun f (g : Nat → Int32) y => L_M_trace_92 kk f s (va_up a 13 g) y) (fun k g => k ≤ n ∧ ∀ m, m < n → g (K m) = bI (wt x n K (n - k) (x.2.2.2.1 (K m)))) (fun o => ∃ g, (∀ m, m < n → g (K m) = bI (wt x n K n (x.2.2.2.1 (K m)))) ∧ o = kk s (va_up a 13 g)) ?_ ?_ n jF g0 (by unfold jF; omega) ⟨Nat.le_refl _, by rw [Nat.sub_self]; exact hg0⟩
  · rintro f k g ⟨i0, i1⟩
    left
    have hk : k < n := by omega
    obtain ⟨e, he⟩ : ∃ e, e = n - (k + 1) := ⟨_, rfl⟩
    rw [← he] at i1
    have hek : n - k = e + 1 := by omega
    have hke : n - 1 - e = k := by omega
    have hKk := hK.1 k hk
    obtain ⟨r1, r2, r3, r4, r5, r6, r7⟩ := hA.2.2.2.2 (K k) hKk
    obtain ⟨w1, w2, w3, w4⟩ := hw (K k) hKk
    rw [L_M_trace_92, if_neg (nI_pos (by omega)), jg_nI (by omega) (by decide)]
    simp only [up_up, up_self, up_ne _ _ (show (12 : Nat) ≠ 13 by decide), up_ne _ _ (show (1 : Nat) ≠ 13 by decide), up_ne _ _ (show (2 : Nat) ≠ 13 by decide), up_ne _ _ (show (11 : Nat) ≠ 13 by decide), nI_clamp (show k < 2 ^ 31 by omega), h12 k hk, jg_nI (show K k < 40 by omega) (show 40 < 2 ^ 31 by decide), nI_clamp (show K k < 2 ^ 31 by omega), r1, r3, jg_nI (show x.2.1 (K k) < 21 by omega) (show 21 < 2 ^ 31 by decide), nI_clamp (show x.2.1 (K k) < 2 ^ 31 by omega), h11 (x.2.1 (K k)) (by omega), dn_add, i1 k hk]
    cases hb : wt x n K e (x.2.2.2.1 (K k)) with
    | false =>
      rw [if0f]
      refine ⟨g, ⟨by omega, fun m hm => ?_⟩, rfl⟩
      rw [i1 m hm, hek, wt, hke, hb]; simp
    | true =>
      rw [if0t]
      have s1 := set_mk hK h40 hM i1 (x.2.1 (K k))
      by_cases ho : x.2.2.1 (K k) = 20
      · have res : ∀ m, m < n → setm g (mk (x.2.1 (K k))) (K m) = bI (wt x n K (n - k) (x.2.2.2.1 (K m))) := by
          intro m hm
          rw [s1 m hm, hek, wt, hke, hb]
          simp [lfB, ho]
        refine ⟨setm g (mk (x.2.1 (K k))), ⟨by omega, res⟩, ?_⟩
        rw [if_pos ho, if_pos (show (-1 : Int32) < 0 by decide)]
        unfold setm
        rcases mk_in hK h40 hM (x.2.1 (K k)) with q | ⟨q1, q2⟩
        · rw [if_pos q, if_pos q]
        · rw [if_neg q1, if_neg q1, q2, jg_t]
          rw [if_pos (show (-1 : Int32) < 0 by decide)]
      · have s2 := set_mk (w := fun c => wt x n K e c || decide (c = x.2.1 (K k))) hK h40 hM s1 (x.2.2.1 (K k))
        have res : ∀ m, m < n → setm (setm g (mk (x.2.1 (K k)))) (mk (x.2.2.1 (K k))) (K m) = bI (wt x n K (n - k) (x.2.2.2.1 (K m))) := by
          intro m hm
          rw [s2 m hm, hek, wt, hke, hb]
          simp [lfB, ho, Bool.or_assoc]
        refine ⟨setm (setm g (mk (x.2.1 (K k)))) (mk (x.2.2.1 (K k))), ⟨by omega, res⟩, ?_⟩
        have ho' : x.2.2.1 (K k) < 20 := by omega
        rw [if_neg ho, if_neg (nI_pos (by omega)), jg_nI (by omega) (by decide), nI_clamp (by omega), h11 _ (by omega)]
        unfold setm
        rcases mk_in hK h40 hM (x.2.1 (K k)) with q | ⟨q1, q2⟩
        · rw [if_pos q, if_pos q]
          rcases mk_in hK h40 hM (x.2.2.1 (K k)) with p | ⟨p1, p2⟩
          · rw [if_pos p, if_pos p]
          · rw [if_neg p1, if_neg p1, p2, jg_t]
            first | rfl | rw [jg_nI (by omega) (by decide)]
        · rw [if_neg q1, if_neg q1, q2, jg_t]
          rcases mk_in hK h40 hM (x.2.2.1 (K k)) with p | ⟨p1, p2⟩
          · rw [if_pos p, if_pos p]
            first | rfl | (rw [if_neg (nI_pos (by omega)), jg_nI (by omega) (by decide)])
          · rw [if_neg p1, if_neg p1, p2]
            first | rfl | (rw [if_neg (nI_pos (by omega)), jg_nI (by omega) (by decide), jg_nI (by omega) (by decide)]; rfl)
  · rintro f g ⟨i0, i1⟩
    refine ⟨g, i1, ?_⟩
    show L_M_trace_92 kk (f + 1) s _ (-1) = _
    rw [L_M_trace_92, if_pos (by decide)]
theorem rsn_there (x : jAx) (g : Nat) : ∀ (d : Nat) (F : Nat → Bool) (l : List Nat), (∀ k, k ∈ l → x.2.2.2.2 k = true) → ∀ k, k ∈ (rsn x g d F l).2.2 → x.2.2.2.2 k = true := by
  intro d
  induction d with
  | zero =>
    intro F l h
    rw [rsn]
    split
    · exact h
    · split <;> exact h
  | succ d ih =>
    intro F l h
    rw [rsn]
    split
    · exact h
    · cases hf : fstB (canB x F) x.1 with
      | none => exact h
      | some k =>
        dsimp only
        refine ih _ _ (fun m hm => ?_)
        obtain ⟨q1, q2, q3⟩ := (fstB_spec _ _).1 k hf
        unfold canB at q2
        simp only [Bool.and_eq_true] at q2
        rcases List.mem_append.mp hm with w | w
        · exact h m w
        · rw [List.mem_singleton] at w
          rw [w]; exact q2.1
theorem MK_of {x : jAx} {l : List Nat} {K : Nat → Nat} (hget : ∀ m, m < l.length → l[m]? = some (K m)) (hK : FK x l.length K) : MK x l.length K (mkr x l) := by
  constructor
  · intro m hm
    unfold mkr
    cases h : l.find? (fun k => decide (x.2.2.2.1 k = x.2.2.2.1 (K m))) with
    | none =>
      rw [List.find?_eq_none] at h
      exact absurd (decide_eq_true rfl) (h (K m) (List.mem_iff_getElem?.mpr ⟨m, hget m hm⟩))
    | some k =>
      have h1 := List.find?_some h
      have h2 := List.mem_of_find?_eq_some h
      obtain ⟨p, hp⟩ := List.mem_iff_getElem?.mp h2
      have hlt : p < l.length := (List.getElem?_eq_some_iff.mp hp).1
      rw [hget p hlt] at hp
      injection hp with hp
      rw [← hp, decide_eq_true_eq] at h1
      have := FK_inj hK hm hlt h1
      rw [← hp, this]
  · intro c hc
    unfold mkr
    cases h : l.find? (fun k => decide (x.2.2.2.1 k = c)) with
    | none => rfl
    | some k =>
      have h1 := List.find?_some h
      have h2 := List.mem_of_find?_eq_some h
      obtain ⟨p, hp⟩ := List.mem_iff_getElem?.mp h2
      have hlt : p < l.length := (List.getElem?_eq_some_iff.mp hp).1
      rw [hget p hlt] at hp
      injection hp with hp
      rw [← hp, decide_eq_true_eq] at h1
      exact absurd h1 (hc p hlt)
theorem M_clear (s : jS) (a : jB) (kk : jS → jB → Option (Int32 × jS × jB)) : ∃ g, (∀ n, n < 40 → g n = 0) ∧ L_M_trace_46 kk jF s a 0 = kk s (va_up a 13 g) := by
  have key := lp_out0 (fun f (g : Nat → Int32) y => L_M_trace_46 kk f s (va_up a 13 g) y) (fun k g => ∀ n, n < k → g n = 0) 40 (fun o => ∃ g, (∀ n, n < 40 → g n = 0) ∧ o = kk s (va_up a 13 g)) (by decide) ?_ ?_ (a 13) ?_
  · rw [up_id] at key; exact key
  · intro f k g hk hI
    left
    refine ⟨upd g k 0, ?_, ?_⟩
    · intro n hn
      by_cases e : n = k
      · rw [e, upd_at]
      · rw [upd_ne _ _ e]; exact hI n (by omega)
    · show L_M_trace_46 kk (f + 1) s (va_up a 13 g) (nI k) = _
      rw [L_M_trace_46, if_neg (show ¬ (40 : Int32) ≤ nI k from j_lt (n := 40) hk (by decide)), jg_nI hk (by decide), nI_clamp (by omega), up_self, up_up, nI_1]
  · intro f g hI
    refine ⟨g, hI, ?_⟩
    show L_M_trace_46 kk (f + 1) s _ (nI 40) = _
    rw [L_M_trace_46, if_pos (show (40 : Int32) ≤ nI 40 by decide)]
  · intro n hn; omega
def trc (q : Nat → Bool) (n : Nat) (K : Nat → Nat) (i : Int32) : Int32 := match fstB (fun k => q k && decide (nI (cb q k) = i)) n with
  | some m => nI (K m)
  | none => -6
theorem M_pickFired {s : jS} {a : jB} {n : Nat} {K : Nat → Nat} {q : Nat → Bool} (hn : n ≤ 20) (h7 : s 7 = nI n) (h12 : ∀ m, m < n → a 12 m = nI (K m)) (hK : ∀ m, m < n → K m < 40) (h13 : ∀ m, m < n → a 13 (K m) = bI (q m)) (i : Int32) : L_M_trace_204 s a i (fun _ => some (-6, s, a)) jF i 0 = some (trc q n K i, s, a) := by
  by_cases hi0 : i < 0
  · have : trc q n K i = -6 := by
      unfold trc
      rw [fstB_none (fun j hj => ?_)]
      rw [Bool.and_eq_false_iff]
      right
      rw [decide_eq_false_iff_not]
      intro w
      have := cb_le q j
      exact nI_pos (show cb q j < 2 ^ 31 by omega) (by rw [w]; exact hi0)
    rw [this]
    show L_M_trace_204 s a i _ (4095 + 1) i (nI 0) = _
    rw [L_M_trace_204, if_pos hi0]
    split <;> rfl
  · have key := lp_nth (fun f z y => L_M_trace_204 s a i (fun _ => some (-6, s, a)) f z y) q n (by omega) i hi0 (fun z => some (if z = -6 then -6 else a 12 z.toNatClampNeg, s, a)) (fun f k z hk => ?_) (fun f z => ?_)
    · refine key.trans ?_
      rw [nthI_eq (by omega)]
      unfold nthN trc
      obtain ⟨s1, s2⟩ := fstB_spec (fun k => q k && decide (nI (cb q k) = i)) n
      cases h : fstB (fun k => q k && decide (nI (cb q k) = i)) n with
      | none => rfl
      | some m =>
        obtain ⟨h1, -, -⟩ := s1 m h
        dsimp only
        rw [if_neg (nI_m6 (by omega)), nI_clamp (by omega), h12 m h1]
    · show L_M_trace_204 s a i _ (f + 1) z (nI k) = _
      rw [L_M_trace_204, h7, if_neg (j_lt hk (by omega)), if_neg hi0, jg_nI (by omega) (by decide), nI_clamp (by omega), h12 k hk, jg_nI (hK k hk) (by decide), nI_clamp (by have := hK k hk; omega), h13 k hk, jb_s, jg_nI (by omega) (by decide), nI_1, if_neg (nI_m6 (show k < 2 ^ 31 by omega))]
      exact mnth _ z _ (fun w => L_M_trace_204 s a i (fun _ => some (-6, s, a)) f w (nI (k + 1)))
    · show L_M_trace_204 s a i _ (f + 1) z (nI n) = _
      rw [L_M_trace_204, h7, if_pos (j_le (Nat.le_refl _) (by omega)), if_pos rfl]
theorem s_trace : sim_trace Rel := by
  rintro s a s' a' p0 p1 p2 ⟨nc, nt, fu, x, mem, pl, hR⟩
  have hR' := hR
  obtain ⟨⟨c1, c2, c3, c4⟩, ⟨d0, d1, d2, d3, d4, d5, d6, d7⟩, ⟨e1, e2, e3⟩, ⟨f1, f2, f3⟩, ⟨g1, g2⟩, h1⟩ := hR'
  have bad : ∃ v s1 a1 s2 a2, some ((-1 : Int32), s, a) = some (v, s1, a1) ∧ some ((-1 : Int32), s', a') = some (v, s2, a2) ∧ Rel s1 a1 s2 a2 := ⟨-1, s, a, s', a', rfl, rfl, nc, nt, fu, x, mem, pl, hR⟩
  obtain ⟨m1, m2⟩ := M_goalOf (s := s') (a := a') e1.1 c1 p1
  unfold m_X_trace m_M_trace
  rw [X_isClass d0 c1, jb_s, X_isGoal d0 c1, jb_s, M_isClass e1.1 c1]
  cases hg : glB nc p1 with
  | false =>
    rw [m1 hg, jb_s, jb_s, if0f]
    cases hc : jin p0 nc with
    | false => rw [if0f, if0f]; exact bad
    | true => rw [if0t, if0t, if_neg (by decide)]; exact bad
  | true =>
    obtain ⟨r, hr0⟩ := gl_ex c1 hg
    have hrr := hr_lt c1 hr0.h
    rw [m2 r hr0, jb_s, jb_s, if0t]
    cases hc : jin p0 nc with
    | false => rw [if0f, if0f]; exact bad
    | true =>
      obtain ⟨i, hi, rfl⟩ := jin_ex (by omega) hc
      obtain ⟨s1, a1, k1, k2⟩ := x_decide c1 c4 d5 d7 c3 hrr (oneB i)
      obtain ⟨s2, a2, k3, k4, k5⟩ := M_reasonAlone e1 e3 c3 (show i < 21 by omega) hrr
      rw [if0t, if0t, hr0.slot c1, x_bit, jb_s, jb_s, bs_one (by omega), k1, jb3_s, if_pos (show (0 : Int32) ≤ nI r by show nI 0 ≤ nI r; exact j_le (by omega) (by omega)), k3, jb3_s]
      by_cases hv : (rsn x r fu (oneB i) []).1 = 1
      · rw [if_pos hv, if_pos hv]
        obtain ⟨pw, len⟩ := rsn_pw x r fu (oneB i) [] (fun k hk => by cases hk) (fun j m kj km h => by simp at h)
        have hth := rsn_there x r fu (oneB i) [] (fun k hk => by cases hk)
        generalize (rsn x r fu (oneB i) []).2.2 = l at k2 k4 k5 pw len hth
        generalize (rsn x r fu (oneB i) []).2.1 = F at k2 k4 k5
        have hget : ∀ m, m < l.length → l[m]? = some ((l[m]?).getD 0) := by
          intro m hm
          rw [List.getElem?_eq_getElem hm]; rfl
        generalize hKdef : (fun m : Nat => (l[m]?).getD 0) = K
        have hget : ∀ m, m < l.length → l[m]? = some (K m) := fun m hm => by rw [← hKdef]; exact hget m hm
        have hmem : ∀ m, m < l.length → K m ∈ l := fun m hm => List.mem_iff_getElem?.mpr ⟨m, hget m hm⟩
        have hFK : FK x l.length K := ⟨fun m hm => (k5 _ (hmem m hm)).1, fun j m hj hm => pw j m _ _ (hget j hj) (hget m hm)⟩
        have hMK := MK_of hget hFK
        have hlen : l.length ≤ 20 := by simp at len; omega
        have h40 := d5.2.1
        have hrel : ∀ b', (∀ p, p ≠ 13 → b' p = a2 p) → Rel s1 a1 s2 b' := fun b' hb => ⟨nc, nt, fu, x, mem, pl, RelD_frame (RelD_ask hR k2 k4) (fun _ _ _ _ => rfl) (fun _ _ => rfl) (fun _ _ _ => rfl) (fun p hp _ => hb p (by omega))⟩
        obtain ⟨x1, x2, x3, x4, x5⟩ := id k2
        obtain ⟨y1, y2, y3, y4, y5⟩ := id k4
        have hXA : XA s1 a1 x := ⟨(x1 4 (by decide) (by decide)).trans d5.1, d5.2.1, fun k hk => by rw [x4 2 (by decide), x4 3 (by decide)]; exact d5.2.2 k hk⟩
        obtain ⟨z, n1, n2⟩ := x_needed c1 c4 hXA hFK (fun m hm => hth _ (hmem m hm)) hlen x2 (fun m hm => x5 m _ (hget m hm))
        have xres : (jb (if nthN (bt z) 21 p2 = -6 then some (-6 : Int32) else jb (m_XR_firedAt s1 a1 (nthN (bt z) 21 p2)) (fun v19 => some v19)) (fun b17 => some (b17, s1, a1))) = some (trc (fun m => wt x l.length K l.length (x.2.2.2.1 (K m))) l.length K p2, s1, a1) := by
          rw [nthN_ext (p := bt z) (q := fun m => wt x l.length K l.length (x.2.2.2.1 (K m))) (n := l.length) (m := 21) (by omega) (fun k hk => by rw [Bool.eq_iff_iff, n2]; exact ⟨fun q => q.2, fun q => ⟨hk, q⟩⟩) (fun k hk _ => by
            cases e : bt z k with
            | false => rfl
            | true => have := ((n2 k).mp e).1; omega)]
          unfold nthN trc
          obtain ⟨w1, w2⟩ := fstB_spec (fun k => (fun m => wt x l.length K l.length (x.2.2.2.1 (K m))) k && decide (nI (cb (fun m => wt x l.length K l.length (x.2.2.2.1 (K m))) k) = p2)) l.length
          cases h : fstB (fun k => (fun m => wt x l.length K l.length (x.2.2.2.1 (K m))) k && decide (nI (cb (fun m => wt x l.length K l.length (x.2.2.2.1 (K m))) k) = p2)) l.length with
          | none => rfl
          | some m =>
            obtain ⟨q1, -, -⟩ := w1 m h
            dsimp only
            rw [if_neg (nI_m6 (by omega))]
            unfold m_XR_firedAt
            rw [if_neg (nI_pos (by omega)), x2, if_neg (j_lt q1 (by omega)), jg_nI (by omega) (by decide), nI_clamp (by omega), x5 m _ (hget m q1)]
            rfl
        rw [n1, jb_s, x_pick, jb_s, xres]
        have s27 : s2 7 = nI l.length := by rw [y1]; rfl
        rw [s27]
        by_cases h0 : l.length = 0
        · rw [if_pos (by rw [h0]; rfl)]
          refine ⟨_, _, _, _, _, rfl, ?_, hrel a2 (fun _ _ => rfl)⟩
          unfold trc
          rw [h0]
          rfl
        · rw [if_neg (nI_ne0 (by omega) (by omega))]
          obtain ⟨gc, gc0, gc1⟩ := M_clear s2 a2 (fun s9 a10 => jg (jin (s9 7 - 1) 40) (jg (jin (a10 12 (s9 7 - 1).toNatClampNeg) 40) (L_M_trace_92 (fun s17 a18 => L_M_trace_204 s17 a18 p2 (fun _ => some (-6, s17, a18)) jF p2 0) jF s9 (va_up a10 13 (upd (a10 13) (a10 12 (s9 7 - 1).toNatClampNeg).toNatClampNeg 1)) (s9 7 - 1))))
          rw [gc1]
          obtain ⟨n', hn'⟩ : ∃ n', l.length = n' + 1 := ⟨l.length - 1, by omega⟩
          have hk40 : ∀ m, m < l.length → K m < 40 := fun m hm => by have := hFK.1 m hm; omega
          have a12 : ∀ m, m < l.length → a2 12 m = nI (K m) := fun m hm => y5 m _ (hget m hm)
          rw [s27, show nI l.length - 1 = nI n' by rw [hn', nI_pred], jg_nI (by omega) (by decide), nI_clamp (by omega), up_ne _ _ (show (12 : Nat) ≠ 13 by decide), a12 n' (by omega), jg_nI (hk40 n' (by omega)) (by decide), nI_clamp (by have := hk40 n' (by omega); omega), up_self, up_up]
          have hMA2 : MA s2 a2 nc x := MA_same e1 (by rw [y1]; rfl) (by rw [y1]; rfl) (fun p h5 h6 => y2 p (by omega) (by omega) (by omega))
          obtain ⟨gf, gf1, gf2⟩ := M_needed hMA2 hFK hMK hlen a12 y4 c4 (g0 := upd gc (K n') 1) (fun m hm => by
            show _ = bI (decide (x.2.2.2.1 (K m) = x.2.2.2.1 (K (l.length - 1))))
            rw [show l.length - 1 = n' by omega]
            by_cases e : m = n'
            · rw [e, upd_at, decide_eq_true rfl]; rfl
            · rw [decide_eq_false (fun q => e (FK_inj hFK (by omega) hm q)), upd_ne _ _ (fun q => e (FK_inj hFK (by omega) hm (by rw [q]))), gc0 _ (hk40 m hm)]; rfl) (fun s17 a18 => L_M_trace_204 s17 a18 p2 (fun _ => some (-6, s17, a18)) jF p2 0)
          rw [show nI n' = dn l.length by rw [hn']; rfl, gf2, M_pickFired (n := l.length) (K := K) (q := fun m => wt x l.length K l.length (x.2.2.2.1 (K m))) hlen s27 (fun m hm => by rw [up_ne _ _ (by decide)]; exact a12 m hm) hk40 (fun m hm => by rw [up_self]; exact gf1 m hm)]
          exact ⟨_, _, _, _, _, rfl, rfl, hrel _ (fun p hp => by rw [up_ne _ _ hp])⟩
      · rw [if_neg hv, if_neg hv]
        exact ⟨_, _, _, _, _, rfl, rfl, nc, nt, fu, x, mem, pl, RelD_ask hR k2 k4⟩

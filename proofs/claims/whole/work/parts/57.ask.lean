/-! the class's reasoner; ask -/
theorem left_ok {nc : Nat} (hn : nc ≤ 20) {x : jAx} (hw : Axw nc x) {k : Nat} (hk : k < x.1) (ht : x.2.2.2.2 k = true) (F : Nat → Bool) : (lfI x k &&& (bs F 21 ^^^ (-1))) = 0 ↔ F (x.2.1 k) = true ∧ (x.2.2.1 k = 20 ∨ F (x.2.2.1 k) = true) := by
  obtain ⟨w1, w2, w3, w4⟩ := hw k hk
  rw [b_z]
  constructor
  · intro h
    have key : ∀ c, c < 21 → bt (lfI x k) c = true → F c = true := by
      intro c hc q
      have := h c (by omega)
      rw [b_and, q, b_not _ (by omega), b_bs _ (by decide), decide_eq_true hc] at this
      cases e : F c with
      | true => rfl
      | false => rw [e] at this; exact absurd this (by decide)
    refine ⟨key _ (by omega) ((b_lfI hn hw hk _).mpr ⟨ht, Or.inl rfl⟩), ?_⟩
    by_cases e : x.2.2.1 k = 20
    · exact Or.inl e
    · exact Or.inr (key _ (by omega) ((b_lfI hn hw hk _).mpr ⟨ht, Or.inr ⟨e, rfl⟩⟩))
  · rintro ⟨h1, h2⟩ c hc
    rw [b_and, b_not _ hc, b_bs _ (by decide)]
    cases e : bt (lfI x k) c with
    | false => rfl
    | true =>
      obtain ⟨_, q⟩ := (b_lfI hn hw hk c).mp e
      rcases q with q | ⟨q0, q⟩
      · rw [q, h1, decide_eq_true (show x.2.1 k < 21 by omega)]; rfl
      · rw [q, h2.resolve_left q0, decide_eq_true (show x.2.2.1 k < 21 by omega)]; rfl
theorem x_fires {nc : Nat} (hn : nc ≤ 20) {s : jS} {a : jB} {x : jAx} (hw : Axw nc x) (hA : XA s a x) (F : Nat → Bool) : m_XA_firstThatFires s a (bs F 21) = some (match fstB (canB x F) x.1 with | some k => nI k | none => -6) := by
  have h40 := hA.2.1
  unfold m_XA_firstThatFires
  refine lp_out0 (fun f (_ : Unit) y => L_XA_firstThatFires_2 s a (bs F 21) (fun _ => some (-6)) f y) (fun k _ => ∀ j, j < k → canB x F j = false) x.1 (fun o => o = some (match fstB (canB x F) x.1 with | some k => nI k | none => -6)) (by omega) ?_ ?_ () ?_
  · intro f k _ hk hI
    show (∃ st', _ ∧ L_XA_firstThatFires_2 s a (bs F 21) (fun _ => some (-6)) (f + 1) (nI k) = _) ∨ L_XA_firstThatFires_2 s a (bs F 21) (fun _ => some (-6)) (f + 1) (nI k) = _
    obtain ⟨w1, w2, w3, w4⟩ := hw k hk
    have hr21 := hr_lt hn w3
    rw [L_XA_firstThatFires_2, hA.1, if_neg (j_lt hk (by omega)), jg_nI (by omega) (by decide), nI_clamp (by omega), (hA.2.2 k hk).1, (hA.2.2 k hk).2, jg_nI (by omega) (by decide), x_has _ (by omega), jb_s, nI_1, b_bs _ (by decide), decide_eq_true hr21, Bool.true_and]
    have stepI : canB x F k = false → ∀ j, j < k + 1 → canB x F j = false := by
      intro h j hj
      by_cases e : j = k
      · rw [e]; exact h
      · exact hI j (by omega)
    cases ht : x.2.2.2.2 k with
    | false =>
      rw [if_pos ((lfI_z hn hw hk).mpr (by rw [ht]; decide))]
      exact Or.inl ⟨(), stepI (by simp [canB, ht]), rfl⟩
    | true =>
      rw [if_neg (fun q => (lfI_z hn hw hk).mp q ht)]
      by_cases hl : F (x.2.1 k) = true ∧ (x.2.2.1 k = 20 ∨ F (x.2.2.1 k) = true)
      · rw [if_pos ((left_ok hn hw hk ht F).mpr hl)]
        cases hb : F (x.2.2.2.1 k) with
        | false =>
          rw [if0f]
          right
          have : canB x F k = true := by
            unfold canB
            rw [ht, hl.1, hb]
            rcases hl.2 with q | q
            · simp [q]
            · simp [q]
          rw [fstB_some hk this hI]
        | true =>
          rw [if0t]
          exact Or.inl ⟨(), stepI (by simp [canB, hb]), rfl⟩
      · rw [if_neg (fun q => hl ((left_ok hn hw hk ht F).mp q))]
        refine Or.inl ⟨(), stepI ?_, rfl⟩
        cases e : canB x F k with
        | false => rfl
        | true =>
          unfold canB at e
          simp only [Bool.and_eq_true, Bool.or_eq_true, decide_eq_true_eq] at e
          exact absurd ⟨e.2.1, e.2.2.1⟩ hl
  · intro f _ hI
    show L_XA_firstThatFires_2 s a (bs F 21) (fun _ => some (-6)) (f + 1) (nI x.1) = _
    rw [L_XA_firstThatFires_2, hA.1, if_pos (j_le (Nat.le_refl _) (by omega)), fstB_none hI]
  · intro j hj; omega
def XD (x : jAx) (s : jS) (a : jB) (F : Nat → Bool) (l : List Nat) (s2 : jS) (a2 : jB) : Prop :=
  (∀ i, i ≠ 7 → i ≠ 8 → s2 i = s i) ∧ s2 7 = nI l.length ∧ s2 8 = bs F 21 ∧ (∀ p, p ≠ 5 → a2 p = a p) ∧ ∀ j k, l[j]? = some k → a2 5 j = nI k
theorem bs_ins {F : Nat → Bool} {c : Nat} (hc : c < 21) : bs F 21 ||| b1 c = bs (insB F c) 21 := by
  refine bs_eq (by decide) (fun i hi => ?_)
  rw [b_or, b_bs _ (by decide), b_b1 (by omega), Bool.eq_iff_iff]
  unfold insB
  by_cases e : i = c
  · subst e; simp [hc]
  · simp [e]
theorem goal_bits {F : Nat → Bool} {goal : Nat} (hg : goal < 21) : (bs F 21 &&& (b1 goal ||| b1 20)) = 0 ↔ F goal = false ∧ F 20 = false := by
  rw [b_z]
  constructor
  · intro h
    have h1 := h goal (by omega)
    have h2 := h 20 (by decide)
    rw [b_and, b_or, b_b1 (by omega), b_b1 (by omega), b_bs _ (by decide)] at h1 h2
    simp [hg] at h1 h2
    exact ⟨h1, h2⟩
  · rintro ⟨h1, h2⟩ i hi
    rw [b_and, b_or, b_b1 (by omega), b_b1 (by omega), b_bs _ (by decide)]
    by_cases e : i = goal
    · rw [e, h1]; simp
    · by_cases e2 : i = 20
      · rw [e2, h2]; simp
      · simp [e, e2]
theorem nI_m6 {k : Nat} (hk : k < 2 ^ 31) : nI k ≠ -6 := fun q => by
  have := nI_pos hk
  rw [q] at this
  exact this (by decide)
theorem x_decide24 {nc : Nat} (hn : nc ≤ 20) {s : jS} {a : jB} {x : jAx} (hw : Axw nc x) (hA : XA s a x) {fu goal : Nat} (hfu : s 6 = nI fu) (hf20 : fu ≤ 20) (hg : goal < 21) :
    ∀ (d : Nat) (F : Nat → Bool) (l : List Nat) (s1 : jS) (a1 : jB) (f : Nat), XD x s a F l s1 a1 → l.length + d = fu → d < f →
      ∃ s2 a2, L_XR_decide_24 (b1 goal ||| b1 20) (fun s11 a12 => some (2, s11, a12)) f s1 a1 (nI l.length) = some ((rsn x goal d F l).1, s2, a2) ∧ XD x s a (rsn x goal d F l).2.1 (rsn x goal d F l).2.2 s2 a2 := by
  intro d
  induction d with
  | zero =>
    intro F l s1 a1 f hM hlen hf
    obtain ⟨f, rfl⟩ : ∃ g, f = g + 1 := ⟨f - 1, by omega⟩
    obtain ⟨m1, m2, m3, m4, m5⟩ := id hM
    have hA1 : XA s1 a1 x := ⟨(m1 4 (by decide) (by decide)).trans hA.1, hA.2.1, fun k hk => by rw [m4 2 (by decide), m4 3 (by decide)]; exact hA.2.2 k hk⟩
    rw [L_XR_decide_24, if_neg (show ¬ (20 : Int32) < nI l.length by rw [lt20_iff (by omega)]; omega), m3, x_fires hn hw hA1, jb_s, m2, m1 6 (by decide) (by decide), hfu, rsn]
    have hlt : ¬ nI l.length < nI fu := nI_nlt (by omega) (by omega)
    by_cases h1 : F goal = false ∧ F 20 = false
    · rw [if_pos ((goal_bits hg).mpr h1), if_neg hlt]
      cases h3 : fstB (canB x F) x.1 with
      | none => exact ⟨s1, a1, by simp [h1.1, h1.2], by simpa [h1.1, h1.2, h3] using hM⟩
      | some k =>
        obtain ⟨q1, q2, q3⟩ := (fstB_spec _ _).1 k h3
        have := hA.2.1
        exact ⟨s1, a1, by simp [h1.1, h1.2, nI_m6 (show k < 2 ^ 31 by omega)], by simpa [h1.1, h1.2, h3] using hM⟩
    · rw [if_neg (fun q => h1 ((goal_bits hg).mp q))]
      have h2 : (F goal || F 20) = true := by
        cases e1 : F goal <;> cases e2 : F 20 <;> simp [e1, e2] at h1 ⊢
      exact ⟨s1, a1, by simp [h2], by simpa [h2] using hM⟩
  | succ d ih =>
    intro F l s1 a1 f hM hlen hf
    obtain ⟨f, rfl⟩ : ∃ g, f = g + 1 := ⟨f - 1, by omega⟩
    obtain ⟨m1, m2, m3, m4, m5⟩ := id hM
    have hA1 : XA s1 a1 x := ⟨(m1 4 (by decide) (by decide)).trans hA.1, hA.2.1, fun k hk => by rw [m4 2 (by decide), m4 3 (by decide)]; exact hA.2.2 k hk⟩
    rw [L_XR_decide_24, if_neg (show ¬ (20 : Int32) < nI l.length by rw [lt20_iff (by omega)]; omega), m3, x_fires hn hw hA1, jb_s, m2, m1 6 (by decide) (by decide), hfu, rsn]
    have hlt : nI l.length < nI fu := nI_lt (by omega) (by omega)
    by_cases h1 : F goal = false ∧ F 20 = false
    · rw [if_pos ((goal_bits hg).mpr h1), if_pos hlt]
      cases h3 : fstB (canB x F) x.1 with
      | none => exact ⟨s1, a1, by simp [h1.1, h1.2], by simpa [h1.1, h1.2, h3] using hM⟩
      | some k =>
        obtain ⟨q1, q2, q3⟩ := (fstB_spec _ _).1 k h3
        have h40 := hA.2.1
        have hr21 := hr_lt hn (hw k q1).2.2.1
        dsimp only
        rw [if_neg (nI_m6 (show k < 2 ^ 31 by omega)), jg_nI (by omega) (by decide), nI_clamp (by omega)]
        have hA2 : XA (upd s1 7 (nI l.length + 1)) (va_up a1 5 (upd (a1 5) l.length (nI k))) x := ⟨hA1.1, hA1.2.1, fun j hj => by rw [up_ne _ _ (by decide), up_ne _ _ (by decide)]; exact hA1.2.2 j hj⟩
        rw [x_rightOf hA2 (by omega), if_pos q1, jb_s, x_bit, jb_s]
        have e8 : upd s1 7 (nI l.length + 1) 8 = bs F 21 := m3
        rw [e8, bs_ins hr21, nI_1]
        have hM' : XD x s a (insB F (x.2.2.2.1 k)) (l ++ [k]) (upd (upd s1 7 (nI (l.length + 1))) 8 (bs (insB F (x.2.2.2.1 k)) 21)) (va_up a1 5 (upd (a1 5) l.length (nI k))) := by
          refine ⟨?_, ?_, ?_, ?_, ?_⟩
          · intro i h7 h8
            show upd (upd s1 7 _) 8 _ i = _
            unfold upd
            rw [if_neg h8, if_neg h7]
            exact m1 i h7 h8
          · rw [List.length_append]; rfl
          · rfl
          · intro p h5
            rw [up_ne _ _ h5]; exact m4 p h5
          · intro j m hj
            rw [up_self]
            by_cases e : j = l.length
            · subst e
              rw [List.getElem?_append_right (Nat.le_refl _), Nat.sub_self] at hj
              rw [upd_at]
              injection hj with hj
              rw [hj]
            · rw [upd_ne _ _ e]
              refine m5 j m ?_
              have hlt : j < (l ++ [k]).length := (List.getElem?_eq_some_iff.mp hj).1
              rw [List.length_append] at hlt
              have hlt : j < l.length + 1 := hlt
              rw [List.getElem?_append_left (by omega)] at hj
              exact hj
        have hlen' : (l ++ [k]).length = l.length + 1 := by rw [List.length_append]; rfl
        obtain ⟨s2, a2, k1, k2⟩ := ih (insB F (x.2.2.2.1 k)) (l ++ [k]) _ _ f hM' (by omega) (by omega)
        rw [hlen'] at k1
        refine ⟨s2, a2, ?_, ?_⟩
        · simp only [h1.1, h1.2, Bool.or_self, Bool.false_eq_true, if_false]
          exact k1
        · simp only [h1.1, h1.2, Bool.or_self, Bool.false_eq_true, if_false]
          exact k2
    · rw [if_neg (fun q => h1 ((goal_bits hg).mp q))]
      have h2 : (F goal || F 20) = true := by
        cases e1 : F goal <;> cases e2 : F 20 <;> simp [e1, e2] at h1 ⊢
      exact ⟨s1, a1, by simp [h2], by simpa [h2] using hM⟩
theorem x_decide {nc : Nat} (hn : nc ≤ 20) {s : jS} {a : jB} {x : jAx} (hw : Axw nc x) (hA : XA s a x) {fu goal : Nat} (hfu : s 6 = nI fu) (hf20 : fu ≤ 20) (hg : goal < 21) (F : Nat → Bool) :
    ∃ s2 a2, m_XR_decide s a (bs F 21) (nI goal) = some ((rsn x goal fu F []).1, s2, a2) ∧ XD x s a (rsn x goal fu F []).2.1 (rsn x goal fu F []).2.2 s2 a2 := by
  unfold m_XR_decide
  rw [x_bit, jb_s, show m_X_bit 20 = some (b1 20) from rfl, jb_s]
  exact x_decide24 hn hw hA hfu hf20 hg fu F [] (upd (upd s 8 (bs F 21)) 7 0) a jF ⟨fun i h7 h8 => by unfold upd; rw [if_neg h7, if_neg h8], rfl, rfl, fun _ _ => rfl, fun j k h => by simp at h⟩ (by simp) (by unfold jF; omega)
theorem bs_one {i : Nat} (hi : i < 21) : b1 i = bs (oneB i) 21 := by
  refine bs_eq (by decide) (fun c hc => ?_)
  rw [b_b1 (by omega), Bool.eq_iff_iff]
  unfold oneB
  simp
  omega
theorem RelD_ask {nc nt fu : Nat} {x : jAx} {mem : Nat → Nat → Bool} {pl : Nat → Bool} {s : jS} {a : jB} {s' : jS} {a' : jB} (hR : RelD nc nt fu x mem pl s a s' a') {F : Nat → Bool} {l : List Nat} {t : jS} {b : jB} {F' : Nat → Bool} {l' : List Nat} {t' : jS} {b' : jB} (h1 : XD x s a F l t b) (h2 : MR x s' a' F' l' t' b') : RelD nc nt fu x mem pl t b t' b' := by
  obtain ⟨m1, m2, m3, m4, m5⟩ := h1
  obtain ⟨n1, n2, n3, n4, n5⟩ := h2
  refine RelD_frame hR (fun i h7 h8 _ => m1 i h7 h8) m4 (fun i h7 h8 => ?_) (fun p hp _ => n2 p (by omega) (by omega) (by omega))
  rw [n1]
  unfold upd
  rw [if_neg h7]
theorem s_ask : sim_ask Rel := by
  rintro s a s' a' p0 p1 ⟨nc, nt, fu, x, mem, pl, hR⟩
  have hR' := hR
  obtain ⟨⟨c1, c2, c3, c4⟩, ⟨d0, d1, d2, d3, d4, d5, d6, d7⟩, ⟨e1, e2, e3⟩, ⟨f1, f2, f3⟩, ⟨g1, g2⟩, h1⟩ := hR'
  have bad : ∃ v s1 a1 s2 a2, some ((-1 : Int32), s, a) = some (v, s1, a1) ∧ some ((-1 : Int32), s', a') = some (v, s2, a2) ∧ Rel s1 a1 s2 a2 := ⟨-1, s, a, s', a', rfl, rfl, nc, nt, fu, x, mem, pl, hR⟩
  obtain ⟨m1, m2⟩ := M_goalOf (s := s') (a := a') e1.1 c1 p1
  unfold m_X_ask m_M_ask
  rw [X_isClass d0 c1, jb_s, X_isGoal d0 c1, jb_s, M_isClass e1.1 c1]
  cases hg : glB nc p1 with
  | false =>
    rw [m1 hg, jb_s, jb_s, if0f]
    cases hc : jin p0 nc with
    | false => rw [if0f, if0f]; exact bad
    | true => rw [if0t, if0t, if_neg (by decide)]; exact bad
  | true =>
    obtain ⟨r, hr0⟩ := gl_ex c1 hg
    have hrr := hr_lt c1 hr0.h
    rw [m2 r hr0, jb_s, jb_s, if0t]
    cases hc : jin p0 nc with
    | false => rw [if0f, if0f]; exact bad
    | true =>
      obtain ⟨i, hi, rfl⟩ := jin_ex (by omega) hc
      obtain ⟨s1, a1, k1, k2⟩ := x_decide c1 c4 d5 d7 c3 hrr (oneB i)
      obtain ⟨s2, a2, k3, k4, k5⟩ := M_reasonAlone e1 e3 c3 (show i < 21 by omega) hrr
      rw [if0t, if0t, hr0.slot c1, x_bit, jb_s, jb_s, bs_one (by omega), k1, jb3_s, if_pos (by show nI 0 ≤ nI r; exact j_le (by omega) (by omega)), k3, jb3_s]
      exact ⟨_, _, _, _, _, rfl, rfl, nc, nt, fu, x, mem, pl, RelD_ask hR k2 k4⟩

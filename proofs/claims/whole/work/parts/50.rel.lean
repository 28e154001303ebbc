/-! the relation; class0, thing -/
def RelD (nc nt fu : Nat) (x : jAx) (mem : Nat → Nat → Bool) (pl : Nat → Bool) (s : jS) (a : jB) (s' : jS) (a' : jB) : Prop :=
  (nc ≤ 20 ∧ nt ≤ 8 ∧ fu ≤ 20 ∧ Axw nc x) ∧
  (s 0 = nI nc ∧ s 1 = nI nt ∧ s 2 = s' 5 ∧ s 3 = s' 6 ∧ (s 3 = 0 ∨ s 3 = 1) ∧ XA s a x ∧ s 5 = nI (cb x.2.2.2.2 x.1) ∧ s 6 = nI fu) ∧
  (MA s' a' nc x ∧ s' 2 = nI nt ∧ s' 4 = nI fu) ∧
  ((∀ t, t < 8 → a 12 t = bs (mem t) 20) ∧ MM a' mem ∧ ∀ t c, mem t c = true → c < nc) ∧
  (KI nc x a ∧ Enc nc a (a' 6)) ∧
  (s 3 = 1 → s 9 = bs pl nc ∧ s 10 = bs (fun c => !pl c) nc ∧ ∀ c, c < 20 → a' 8 c = bI (decide (c < nc) && pl c))
def Rel : jRel := fun s a s' a' => ∃ nc nt fu x mem pl, RelD nc nt fu x mem pl s a s' a'
theorem hr_up {nc j : Nat} (h : hr nc j) : hr (nc + 1) j := h.imp (fun q => by omega) id
theorem pm1 (n : Nat) : nI n + 1 - 1 = nI n := by rw [nI_1, nI_pred]
theorem MA_grow {s s2 : jS} {a : jB} {nc : Nat} {x : jAx} (h : MA s a nc x) (hn : nc < 20) (e1 : s2 1 = nI (nc + 1)) (e3 : s2 3 = s 3) : MA s2 a (nc + 1) x := by
  obtain ⟨h1, h2, h3, h4, hk⟩ := h
  refine ⟨e1, by omega, e3.trans h3, h4, fun k hkk => ?_⟩
  obtain ⟨q1, q2, q3, q4, q5, q6, q7⟩ := hk k hkk
  exact ⟨q1, by omega, q3, q4.imp (fun z => by omega) id, q5, hr_up q6, q7⟩
theorem Axw_grow {nc : Nat} {x : jAx} (h : Axw nc x) : Axw (nc + 1) x := fun k hk => by
  obtain ⟨q1, q2, q3, q4⟩ := h k hk
  exact ⟨by omega, q2.imp (fun z => by omega) id, hr_up q3, q4⟩
/-- a new class on both sides -/
theorem newClass {nc : Nat} {x : jAx} {s : jS} {a : jB} {s' : jS} {a' : jB} (hn : nc < 20) (hw : Axw nc x) (hA : MA s' a' (nc + 1) x) (hK : KI nc x a) (hE : Enc nc a (a' 6)) :
    ∃ a1 f1, m_XK_addClass s a (nI nc) = some (s, a1) ∧ (∀ p, p ≠ 7 → p ≠ 8 → p ≠ 9 → p ≠ 10 → a1 p = a p) ∧ m_M_close s' a' = some (s', va_up a' 6 f1) ∧ KI (nc + 1) x a1 ∧ Enc (nc + 1) a1 f1 := by
  obtain ⟨hs, hp, hself, hNc, hOd, hYD, hND, hOi⟩ := id hK
  have hno : ∀ j, ¬ Yx a nc j := fun j q => by rcases (hs.2.2.1 _ _ q).1 with z | z <;> omega
  have hno2 : ∀ i, ¬ Yx a i nc := fun i q => by rcases (hs.2.2.1 _ _ q).2 with z | z <;> omega
  generalize ha0 : va_up (va_up a 7 (upd (a 7) nc (b1 nc))) 8 (upd (a 8) nc (b1 nc)) = a0
  have a07 : a0 7 = upd (a 7) nc (b1 nc) := by rw [← ha0, up_ne _ _ (by decide), up_self]
  have a08 : a0 8 = upd (a 8) nc (b1 nc) := by rw [← ha0, up_self]
  have a0p : ∀ p, p ≠ 7 → p ≠ 8 → a0 p = a p := fun p h1 h2 => by rw [← ha0, up_ne _ _ h2, up_ne _ _ h1]
  have Y0 : ∀ i j, Yx a0 i j ↔ (i = nc ∧ j = nc) ∨ Yx a i j := by
    intro i j
    unfold Yx
    rw [a07]
    unfold upd
    by_cases e : i = nc
    · subst e
      rw [if_pos rfl, b_b1 (by omega)]
      simp only [decide_eq_true_eq]
      exact ⟨fun q => Or.inl ⟨trivial, q.2⟩, fun q => ⟨by omega, q.elim (fun z => z.2) (fun z => absurd z (hno j))⟩⟩
    · rw [if_neg e]
      exact ⟨fun q => Or.inr q, fun q => q.elim (fun z => absurd z.1 e) id⟩
  have N0 : ∀ i j, Nx a0 i j ↔ Nx a i j := fun i j => by unfold Nx; rw [a0p 9 (by decide) (by decide)]
  have O0 : ∀ i j, Ox a0 i j ↔ Ox a i j := fun i j => by unfold Ox; rw [a0p 10 (by decide) (by decide)]
  have hs0 : Xs (nc + 1) a0 := by
    refine ⟨?_, ?_, ?_, ?_, ?_⟩
    · intro i j hi hj
      rw [Bool.eq_iff_iff]
      have y := Y0 i j
      unfold Yx at y
      rw [a08]
      unfold upd
      by_cases e : j = nc
      · subst e
        rw [if_pos rfl, b_b1 (by omega)]
        simp only [decide_eq_true_eq]
        constructor
        · intro q; exact (y.mpr (Or.inl ⟨q, rfl⟩)).2
        · intro q; exact (y.mp ⟨hi, q⟩).elim (fun z => z.1) (fun z => absurd z (hno2 i))
      · rw [if_neg e, hs.1 i j hi hj]
        constructor
        · intro q; exact (y.mpr (Or.inr ⟨hi, q⟩)).2
        · intro q; exact (y.mp ⟨hi, q⟩).elim (fun z => absurd z.2 e) (fun z => z.2)
    · intro j i hj q
      rw [a08] at q
      unfold upd at q
      split at q
      · rw [b_b1 (by omega)] at q
        simp only [decide_eq_true_eq] at q
        omega
      · exact hs.2.1 j i hj q
    · intro i j q
      rcases (Y0 i j).mp q with z | z
      · rw [z.1, z.2]; exact ⟨Or.inl (by omega), Or.inl (by omega)⟩
      · exact ⟨hr_up (hs.2.2.1 _ _ z).1, hr_up (hs.2.2.1 _ _ z).2⟩
    · intro i j q
      have := hs.2.2.2.1 i j ((N0 i j).mp q)
      exact ⟨hr_up this.1, hr_up this.2⟩
    · intro i j q
      have := hs.2.2.2.2 i j ((O0 i j).mp q)
      exact ⟨hr_up this.1, hr_up this.2⟩
  have htr : ∀ i j k, Yx a0 i j → Yx a0 j k → Yx a0 i k := by
    intro i j k h1 h2
    rw [Y0] at h1 h2 ⊢
    rcases h1 with h1 | h1 <;> rcases h2 with h2 | h2
    · exact Or.inl ⟨h1.1, h2.2⟩
    · rw [h1.2] at h2; exact absurd h2 (hno k)
    · rw [h2.1] at h1; exact absurd h1 (hno2 i)
    · exact Or.inr (hp.2.2 _ _ _ h1 h2)
  obtain ⟨a1, t1, t2, t3, t4, t5⟩ := x_tell (s := s) (show nc + 1 ≤ 20 by omega) hs0 htr (i := 20) (j := nc) (Or.inr rfl) (Or.inl (by omega))
  have Y1 : ∀ i j, Yx a1 i j ↔ (i = nc ∧ j = nc) ∨ Yx a i j ∨ (Yx a i 20 ∧ j = nc) := by
    intro i j
    rw [t4, Y0, Y0, Y0]
    constructor
    · rintro ((z | z) | ⟨z | z, w | w⟩)
      · exact Or.inl z
      · exact Or.inr (Or.inl z)
      · omega
      · omega
      · exact Or.inr (Or.inr ⟨z, w.2⟩)
      · exact absurd w (hno j)
    · rintro (z | z | z)
      · exact Or.inl (Or.inl z)
      · exact Or.inl (Or.inr z)
      · exact Or.inr ⟨Or.inr z.1, Or.inl ⟨rfl, z.2⟩⟩
  have hp1 : Pre (nc + 1) (Yx a1) := by
    refine ⟨fun i hi => ?_, fun j hj => ?_, t5⟩
    · rw [Y1]
      by_cases e : i = nc
      · exact Or.inl ⟨e, e⟩
      · exact Or.inr (Or.inl (hp.1 i (by rcases hi with z | z; exact Or.inl (by omega); exact Or.inr z)))
    · rw [Y1]
      by_cases e : j = nc
      · exact Or.inr (Or.inr ⟨hp.1 20 (Or.inr rfl), e⟩)
      · exact Or.inr (Or.inl (hp.2.1 j (by rcases hj with z | z; exact Or.inl (by omega); exact Or.inr z)))
  have hT : Tab (nc + 1) (a' 6) := fun i j hi hj => (hE.1 i j hi hj).imp id (fun z => ⟨by omega, hr_up z.2.1, z.2.2⟩)
  have ftab : ∀ i j, i < nc + 1 → hr (nc + 1) j → a' 6 (21 * i + j) ≠ 3 → i < nc ∧ hr nc j := by
    intro i j hi hj h3
    rcases hE.1 i j (by omega) (hr_lt (show nc + 1 ≤ 20 by omega) hj) with z | z
    · exact absurd z h3
    · exact ⟨z.1, z.2.1⟩
  have selfok : ∀ i j, i < nc + 1 → selfB x i j = true → (i = nc ∧ j = nc) ∨ Yx a i j := by
    intro i j hi hsf
    by_cases e : i = j
    · subst e
      by_cases e2 : i = nc
      · exact Or.inl ⟨e2, e2⟩
      · exact Or.inr (hp.1 i (Or.inl (by omega)))
    · unfold selfB at hsf
      simp only [Bool.or_eq_true, decide_eq_true_eq] at hsf
      obtain ⟨k, hk, h⟩ := anyB_iff.mp (hsf.resolve_left e)
      have h' := h
      simp only [selfP, Bool.and_eq_true, decide_eq_true_eq] at h'
      obtain ⟨w1, w2, w3, w4⟩ := hw k hk
      right
      refine hself i j (by omega) (by rw [← h'.2.2.2]; exact w3) ?_
      unfold selfB
      simp only [Bool.or_eq_true]
      exact Or.inr (anyB_iff.mpr ⟨k, hk, h⟩)
  have key := close_both (s := s) (a := a1) (show nc + 1 ≤ 20 by omega) hA hT t3 hp1 ?_ ?_ ?_ ?_ ?_
  · obtain ⟨a2, f1, c1, c2, c3, c4, c5⟩ := key
    refine ⟨a2, f1, ?_, ?_, c3, c4, c5⟩
    · unfold m_XK_addClass
      rw [x_bit, jb_s, jg_nI (by omega) (by decide), nI_clamp (by omega), jb_s, jg_nI (by omega) (by decide), up_ne _ _ (show (8 : Nat) ≠ 7 by decide), ha0, show (20 : Int32) = nI 20 from rfl, t1, jb2_s, c1]
      rfl
    · intro p h7 h8 h9 h10
      rw [c2 p h9 h10, t2 p h7 h8, a0p p h7 h8]
  · intro i j
    rw [Y1]
    constructor
    · have old : ∀ p q, Yx a p q → Yst (nc + 1) (tB (nc + 1) x (a' 6)) p q := by
        intro p q h
        obtain ⟨h1, h2⟩ := hs.2.2.1 p q h
        rcases h1 with h1 | h1
        · exact Yst_in ⟨by omega, hr_up h2, Or.inl ((hE.2 p q h1 h2).1.mpr h)⟩
        · rw [h1]; exact (Yst_pre _ _).2.1 q (hr_up h2)
      rintro (z | z | z)
      · rw [z.1, z.2]; exact (Yst_pre _ _).1 nc (Or.inl (by omega))
      · exact old i j z
      · rw [z.2]; exact (Yst_pre _ _).2.2 _ _ _ (old i 20 z.1) ((Yst_pre _ _).2.1 nc (Or.inl (by omega)))
    · intro h
      refine (Y1 i j).mp (Yst_le hp1 (fun p q z => (Y1 p q).mpr ?_) h)
      rcases z.2.2 with w | w
      · have := ftab p q z.1 z.2.1 (by rw [w]; decide)
        exact Or.inr (Or.inl ((hE.2 p q this.1 this.2).1.mp w))
      · exact (selfok p q z.1 w).imp id Or.inl
  · intro i j
    rw [t2.N, N0, Enc_tN hK hE]
    exact ⟨fun z => ⟨by have := z.1; omega, hr_up z.2.1, z.2.2⟩, fun z => by
      have := ftab i j z.1 z.2.1 (by rw [z.2.2]; decide)
      exact ⟨this.1, this.2, z.2.2⟩⟩
  · intro i j
    rw [t2.O, O0, Enc_O hK hE]
    exact ⟨fun z => ⟨by have := z.1; omega, hr_up z.2.1, z.2.2⟩, fun z => by
      have := ftab i j z.1 z.2.1 (by rw [z.2.2]; decide)
      exact ⟨this.1, this.2, z.2.2⟩⟩
  · intro i j z
    rcases z.2.2 with w | w
    · have := ftab i j z.1 z.2.1 (by rw [w]; decide)
      exact hYD i j ((hE.2 i j this.1 this.2).1.mp w)
    · exact Der_self w
  · intro i j z
    have := ftab i j z.1 z.2.1 (by rw [z.2.2]; decide)
    exact hND i j ((hE.2 i j this.1 this.2).2.1.mp z.2.2)
theorem s_class0 : sim_class0 Rel := by
  rintro s a s' a' ⟨nc, nt, fu, x, mem, pl, ⟨c1, c2, c3, c4⟩, ⟨d0, d1, d2, d3, d4, d5, d6, d7⟩, ⟨e1, e2, e3⟩, ⟨f1, f2, f3⟩, ⟨g1, g2⟩, h1⟩
  have m1 := e1.1
  unfold m_X_class0 m_M_class0
  rw [d0, m1]
  by_cases hn : nc = 20
  · subst hn
    rw [if_neg (by decide), if_pos (by decide)]
    exact ⟨-4, s, a, s', a', rfl, rfl, ⟨20, nt, fu, x, mem, pl, ⟨c1, c2, c3, c4⟩, ⟨d0, d1, d2, d3, d4, d5, d6, d7⟩, ⟨e1, e2, e3⟩, ⟨f1, f2, f3⟩, ⟨g1, g2⟩, h1⟩⟩
  · rw [if_pos (show nI nc < (20 : Int32) from nI_lt (b := 20) (by omega) (by decide)), if_neg (fun q => hn ((e20 (by omega)).mp q))]
    have hA' : MA (upd (upd s' 1 (nI nc + 1)) 6 0) a' (nc + 1) x := MA_grow e1 (by omega) (by rw [nI_1]; rfl) rfl
    obtain ⟨a1, t1, k1, k2, k3, k4, k5⟩ := newClass (s := s) (show nc < 20 by omega) c4 hA' g1 g2
    rw [k1, jb2_s, k3, jb2_s]
    have z1 : upd s 3 0 0 + 1 - 1 = nI nc := by show s 0 + 1 - 1 = _; rw [d0, pm1]
    have z2 : upd (upd s' 1 (nI nc + 1)) 6 0 1 - 1 = nI nc := by show nI nc + 1 - 1 = _; rw [pm1]
    rw [z1, z2]
    refine ⟨nI nc, _, _, _, _, rfl, rfl, nc + 1, nt, fu, x, mem, pl, ⟨by omega, c2, c3, Axw_grow c4⟩, ⟨?_, d1, d2, rfl, Or.inl rfl, ?_, d6, d7⟩, ⟨?_, e2, e3⟩, ⟨?_, ?_, fun t c q => by have := f3 t c q; omega⟩, ⟨k4, ?_⟩, fun q => absurd q (by show ¬ (0 : Int32) = 1; decide)⟩
    · show s 0 + 1 = _
      rw [d0, nI_1]
    · obtain ⟨x1, x2, x3⟩ := d5
      exact ⟨x1, x2, fun k hk => by rw [k2 2 (by decide) (by decide) (by decide) (by decide), k2 3 (by decide) (by decide) (by decide) (by decide)]; exact x3 k hk⟩
    · exact MA_up6 hA' t1
    · intro t ht; rw [k2 12 (by decide) (by decide) (by decide) (by decide)]; exact f1 t ht
    · intro t c ht hc; rw [up_ne _ _ (by decide)]; exact f2 t c ht hc
    · rw [up_self]; exact k5
theorem s_thing : sim_thing Rel := by
  rintro s a s' a' ⟨nc, nt, fu, x, mem, pl, ⟨c1, c2, c3, c4⟩, ⟨d0, d1, d2, d3, d4, d5, d6, d7⟩, ⟨e1, e2, e3⟩, ⟨f1, f2, f3⟩, ⟨g1, g2⟩, h1⟩
  unfold m_X_thing m_M_thing
  rw [d1, e2]
  by_cases hn : nt = 8
  · subst hn
    rw [if_neg (by decide), if_pos (by decide)]
    exact ⟨-4, s, a, s', a', rfl, rfl, ⟨nc, 8, fu, x, mem, pl, ⟨c1, c2, c3, c4⟩, ⟨d0, d1, d2, d3, d4, d5, d6, d7⟩, ⟨e1, e2, e3⟩, ⟨f1, f2, f3⟩, ⟨g1, g2⟩, h1⟩⟩
  · rw [if_pos (show nI nt < (8 : Int32) from nI_lt (b := 8) (by omega) (by decide)), if_neg (show ¬ nI nt = 8 from fun q => hn ((nI_eq (b := 8) (by omega) (by decide)).mp q)), pm1]
    exact ⟨nI nt, _, _, _, _, rfl, rfl, ⟨nc, nt + 1, fu, x, mem, pl, ⟨c1, by omega, c3, c4⟩, ⟨d0, nI_1 nt, d2, d3, d4, d5, d6, d7⟩, ⟨e1, nI_1 nt, e3⟩, ⟨f1, f2, f3⟩, ⟨g1, g2⟩, h1⟩⟩

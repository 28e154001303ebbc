/-! remove -/
def FYs (z : Int32) (a : jB) (k : Nat) (A : jB) : Prop := (∀ p, p ≠ 7 → p ≠ 8 → p ≠ 10 → A p = a p) ∧ ∀ c, A 7 c = (if c < k ∧ bt z c = true then b1 c else a 7 c) ∧ A 8 c = (if c < k then (if bt z c = true then (a 8 c &&& (z ^^^ (-1))) ||| b1 c else a 8 c &&& (z ^^^ (-1))) else a 8 c) ∧ A 10 c = (if c < k ∧ bt z c = true then 0 else a 10 c)
theorem x_forgetYes (s : jS) (a : jB) (z : Int32) : ∃ A, m_XK_forgetYes s a z = some (s, A) ∧ FYs z a 21 A := by
  unfold m_XK_forgetYes
  refine lp_out0 (fun f (A : jB) y => L_XK_forgetYes_2 z (fun s7 a8 => some (s7, a8)) f s A y) (fun k A => FYs z a k A) 21 (fun o => ∃ A, o = some (s, A) ∧ FYs z a 21 A) (by decide) ?_ ?_ a ?_
  · intro f k A hk hI
    left
    show ∃ st', FYs z a (k + 1) st' ∧ L_XK_forgetYes_2 z (fun s7 a8 => some (s7, a8)) (f + 1) s A (nI k) = _
    rw [L_XK_forgetYes_2, if_neg (show ¬ (21 : Int32) ≤ nI k from j_lt (n := 21) hk (by decide)), jg_nI hk (by decide), jg_nI hk (by decide), nI_clamp (by omega), x_has z (by omega), jb_s, x_bit, jb_s, jb_s, jg_nI hk (by decide), jg_nI hk (by decide), jg_nI hk (by decide), jg_nI hk (by decide), nI_1]
    obtain ⟨i1, i2⟩ := hI
    have i8 : A 8 k = a 8 k := by rw [(i2 k).2.1, if_neg (by omega)]
    cases hb : bt z k with
    | false =>
      rw [if0f]
      refine ⟨_, ⟨?_, ?_⟩, rfl⟩
      · intro p h7 h8 h10
        rw [up_ne _ _ h8]; exact i1 p h7 h8 h10
      · intro c
        rw [up_ne _ _ (show (7 : Nat) ≠ 8 by decide), up_ne _ _ (show (10 : Nat) ≠ 8 by decide), up_self]
        obtain ⟨j1, j2, j3⟩ := i2 c
        by_cases e : c = k
        · subst e
          rw [upd_at, j1, j3, i8]
          simp [hb]
        · rw [upd_ne _ _ e, j1, j2, j3]
          have : c < k + 1 ↔ c < k := by omega
          simp only [this]
          exact ⟨trivial, trivial, trivial⟩
    | true =>
      rw [if0t]
      refine ⟨_, ⟨?_, ?_⟩, rfl⟩
      · intro p h7 h8 h10
        rw [up_ne _ _ h10, up_ne _ _ h8, up_ne _ _ h7, up_ne _ _ h8]; exact i1 p h7 h8 h10
      · intro c
        rw [up_self, up_ne _ _ (show (7 : Nat) ≠ 10 by decide), up_ne _ _ (show (7 : Nat) ≠ 8 by decide), up_self, up_ne _ _ (show (8 : Nat) ≠ 10 by decide), up_self, up_ne _ _ (show (10 : Nat) ≠ 8 by decide), up_ne _ _ (show (10 : Nat) ≠ 7 by decide), up_ne _ _ (show (10 : Nat) ≠ 8 by decide), up_ne _ _ (show (7 : Nat) ≠ 8 by decide)]
        obtain ⟨j1, j2, j3⟩ := i2 c
        by_cases e : c = k
        · subst e
          rw [upd_at, upd_at, upd_at, upd_at, i8]
          simp [hb]
        · rw [upd_ne _ _ e, upd_ne _ _ e, upd_ne _ _ e, upd_ne _ _ e, j1, j2, j3]
          have : c < k + 1 ↔ c < k := by omega
          simp only [this]
          exact ⟨trivial, trivial, trivial⟩
  · intro f A hI
    refine ⟨A, ?_, hI⟩
    show L_XK_forgetYes_2 z _ (f + 1) s A (nI 21) = _
    rw [L_XK_forgetYes_2, if_pos (show (21 : Int32) ≤ nI 21 by decide)]
  · exact ⟨fun _ _ _ _ => rfl, fun c => by simp⟩
theorem tell_sub {nc : Nat} (hn : nc ≤ 20) {s : jS} {a a1 : jB} {x : jAx} (hw : Axw nc x) (hA : XA s a x) (hs : Xs nc a) (hp : Pre nc (Yx a)) (h : m_X_tellAxioms s a = some (s, a1)) :
    (∀ i j, Yx a1 i j ↔ Yst nc (fun i j => Yx a i j ∨ aloneP x x.1 i j) i j) ∧ (∀ i j, Nx a1 i j → Nst (Yx a1) (Nx a) i j) ∧ ∀ i j, Ox a1 i j → Ox a i j := by
  obtain ⟨a2, e1, t1, t2, t3, t4⟩ := x_tellAll hn hw hA hs hp (fun s12 a13 => jb2 (m_XK_close s12 a13) (fun s24 a25 => some (s24, a25)))
  obtain ⟨g9, g10, e2, u1, u2⟩ := x_close (s := s) hn t2 t3
  have : a1 = va_up (va_up a2 9 g9) 10 g10 := by
    have e3 : m_X_tellAxioms s a = jb2 (m_XK_close s a2) (fun s24 a25 => some (s24, a25)) := e1
    rw [e3, e2, jb2_s] at h
    injection h with h
    injection h with _ h
    exact h.symm
  subst this
  have y : ∀ i j, Yx (va_up (va_up a2 9 g9) 10 g10) i j ↔ Yx a2 i j := fun i j => by rw [Yx_up (by decide), Yx_up (by decide)]
  refine ⟨fun i j => by rw [y]; exact t4 i j, fun i j q => ?_, fun i j q => ?_⟩
  · unfold Nx at q
    rw [up_ne _ _ (show (9 : Nat) ≠ 10 by decide), up_self] at q
    obtain ⟨p, w, z1, z2, z3⟩ := (u1 i j q.1).mp q.2
    exact ⟨p, w, (t1.N _ _).mp z1, (y _ _).mpr z2, (y _ _).mpr z3⟩
  · unfold Ox at q
    rw [up_self] at q
    exact (t1.O _ _).mp ((u2 i j q.1).mp q.2).1
theorem lfI_drop (x : jAx) (k0 k : Nat) : lfI (axDrop x k0) k = if k = k0 then 0 else lfI x k := by
  unfold lfI axDrop
  by_cases e : k = k0
  · simp [e]
  · simp [e]
theorem Axw_drop {nc : Nat} {x : jAx} (hw : Axw nc x) (k0 : Nat) : Axw nc (axDrop x k0) := hw
theorem aloneP_drop {x : jAx} {k0 n i j : Nat} (h : aloneP (axDrop x k0) n i j) : aloneP x n i j := by
  obtain ⟨k, hk, h1, h2, h3, h4⟩ := h
  have h1 : (if k = k0 then false else x.2.2.2.2 k) = true := h1
  split at h1
  · cases h1
  · exact ⟨k, hk, h1, h2, h3, h4⟩
theorem Tch_nc {nc : Nat} {x : jAx} (hw : Axw nc x) {k0 : Nat} (hk0 : k0 < x.1) {c : Nat} (h : Tch x k0 c) : c < nc := by
  have hb : Bck x (fun c => c < nc) := fun k hk _ _ => by
    obtain ⟨w1, w2, w3, w4⟩ := hw k hk
    exact ⟨w1, fun h0 => w2.resolve_right h0⟩
  obtain ⟨w1, w2, w3, w4⟩ := hw k0 hk0
  exact h (fun c => c < nc) hb w1 (fun h0 => w2.resolve_right h0)
/-- what an axiom's going leaves on both sides -/
theorem dropAxiom {nc : Nat} {x : jAx} {s : jS} {a : jB} {s' : jS} {a' : jB} (hn : nc ≤ 20) (hw : Axw nc x) (hK : KI nc x a) (hE : Enc nc a (a' 6)) {k0 : Nat} (hk0 : k0 < x.1) (ht0 : x.2.2.2.2 k0 = true) (hX : XA s a x) (hA : MA s' a' nc x) {s1 : jS} {a1 : jB} (e4 : s1 4 = s 4) (ha1 : a1 = va_up a 2 (upd (a 2) k0 0)) :
    ∃ z a2 a3 a4' f1, m_XA_touchedBy s a (nI k0) = some z ∧ m_XK_forgetYes s1 a1 z = some (s1, a2) ∧ m_X_tellAxioms s1 a2 = some (s1, a3) ∧ (∀ p, p ≠ 7 → p ≠ 8 → p ≠ 9 → p ≠ 10 → a3 p = a1 p) ∧ m_M_forget s' a' (nI k0) 1 = some (s', a4') ∧ (∀ p, p ≠ 14 → p ≠ 6 → a4' p = a' p) ∧
      m_M_close (upd s' 6 0) (va_up a4' 4 (upd (a4' 4) k0 0)) = some (upd s' 6 0, va_up (va_up a4' 4 (upd (a4' 4) k0 0)) 6 f1) ∧ KI nc (axDrop x k0) a3 ∧ Enc nc a3 f1 ∧ XA s1 a3 (axDrop x k0) ∧ MA (upd s' 6 0) (va_up (va_up a4' 4 (upd (a4' 4) k0 0)) 6 f1) nc (axDrop x k0) ∧ ∀ i j, i < 20 → j < 21 → f1 (21 * i + j) ≠ 3 → a' 6 (21 * i + j) ≠ 3 := by
  obtain ⟨hs, hp, hself, hNc, hOd, hYD, hND, hOi⟩ := id hK
  obtain ⟨z, hz, e1⟩ := x_touchedBy hn hw hX hk0 ht0
  obtain ⟨a2, e2, F1, F2⟩ := x_forgetYes s1 a1 z
  obtain ⟨g, h, hf, e3⟩ := M_forget hA hk0 1
  have hTn : ∀ c, Tch x k0 c → c < nc := fun c => Tch_nc hw hk0
  have a1p : ∀ p, p ≠ 2 → a1 p = a p := fun p hp => by rw [ha1, up_ne _ _ hp]
  have Y2 : ∀ i j, Yx a2 i j ↔ (Tch x k0 i ∧ j = i) ∨ (¬ Tch x k0 i ∧ Yx a i j) := by
    intro i j
    unfold Yx
    rw [(F2 i).1, a1p 7 (by decide)]
    by_cases t : Tch x k0 i
    · have hi := hTn i t
      rw [if_pos ⟨by omega, (hz i).mpr t⟩, b_b1 (by omega), decide_eq_true_eq]
      exact ⟨fun q => Or.inl ⟨t, q.2⟩, fun q => q.elim (fun w => ⟨by omega, w.2⟩) (fun w => absurd t w.1)⟩
    · rw [if_neg (fun q => t ((hz i).mp q.2))]
      exact ⟨fun q => Or.inr ⟨t, q⟩, fun q => q.elim (fun w => absurd w.1 t) (fun w => w.2)⟩
  have N2 : ∀ i j, Nx a2 i j ↔ Nx a i j := fun i j => by unfold Nx; rw [F1 9 (by decide) (by decide) (by decide), a1p 9 (by decide)]
  have O2 : ∀ i j, Ox a2 i j ↔ Ox a i j ∧ ¬ Tch x k0 i := by
    intro i j
    unfold Ox
    rw [(F2 i).2.2, a1p 10 (by decide)]
    by_cases t : Tch x k0 i
    · have hi := hTn i t
      rw [if_pos ⟨by omega, (hz i).mpr t⟩, b_0]
      simp [t]
    · rw [if_neg (fun q => t ((hz i).mp q.2))]
      simp [t]
  have hs2 : Xs nc a2 := by
    refine ⟨?_, ?_, ?_, fun i j q => hs.2.2.2.1 i j ((N2 i j).mp q), fun i j q => hs.2.2.2.2 i j ((O2 i j).mp q).1⟩
    · intro i j hi hj
      rw [Bool.eq_iff_iff]
      have y := Y2 i j
      unfold Yx at y
      rw [(F2 j).2.1, if_pos hj, a1p 8 (by decide)]
      have b8 := hs.1 i j hi hj
      constructor
      · intro q
        refine (y.mpr ?_).2
        split at q
        · rename_i tj
          rw [b_or, b_and, b_not z (by omega), b_b1 (by omega), b8] at q
          simp only [Bool.or_eq_true, Bool.and_eq_true, Bool.not_eq_true', decide_eq_true_eq] at q
          rcases q with q | q
          · exact Or.inr ⟨(fun w => by rw [(hz i).mpr w] at q; exact absurd q.2 (by decide)), hi, q.1⟩
          · subst q; exact Or.inl ⟨(hz i).mp tj, rfl⟩
        · rw [b_and, b_not z (by omega), b8] at q
          simp only [Bool.and_eq_true, Bool.not_eq_true'] at q
          exact Or.inr ⟨(fun w => by rw [(hz i).mpr w] at q; exact absurd q.2 (by decide)), hi, q.1⟩
      · intro q
        rcases y.mp ⟨hi, q⟩ with w | w
        · have e : j = i := w.2
          subst e
          rw [if_pos ((hz j).mpr w.1), b_or, b_b1 (by omega)]
          simp
        · have nz : bt z i = false := by
            cases e : bt z i with
            | false => rfl
            | true => exact absurd ((hz i).mp e) w.1
          split
          · rw [b_or, b_and, b_not z (by omega), b8, nz, w.2.2]; rfl
          · rw [b_and, b_not z (by omega), b8, nz, w.2.2]; rfl
    · intro j i hj q
      rw [(F2 j).2.1, if_pos hj, a1p 8 (by decide)] at q
      split at q
      · rw [b_or, b_and, b_b1 (by omega)] at q
        simp only [Bool.or_eq_true, Bool.and_eq_true, decide_eq_true_eq] at q
        rcases q with q | q
        · exact hs.2.1 j i hj q.1
        · omega
      · rw [b_and] at q
        simp only [Bool.and_eq_true] at q
        exact hs.2.1 j i hj q.1
    · intro i j q
      rcases (Y2 i j).mp q with w | w
      · have := hTn i w.1
        rw [w.2]
        exact ⟨Or.inl this, Or.inl this⟩
      · exact hs.2.2.1 i j w.2
  have hT20 : ¬ Tch x k0 20 := fun q => by have := hTn 20 q; omega
  have Yle : ∀ i j, Yx a2 i j → Yx a i j := by
    intro i j q
    rcases (Y2 i j).mp q with w | w
    · rw [w.2]; exact hp.1 i (Or.inl (hTn i w.1))
    · exact w.2
  have hp2 : Pre nc (Yx a2) := by
    refine ⟨fun i hi => ?_, fun j hj => (Y2 20 j).mpr (Or.inr ⟨hT20, hp.2.1 j hj⟩), fun i j k h1 h2 => ?_⟩
    · by_cases t : Tch x k0 i
      · exact (Y2 i i).mpr (Or.inl ⟨t, rfl⟩)
      · exact (Y2 i i).mpr (Or.inr ⟨t, hp.1 i hi⟩)
    · rcases (Y2 i j).mp h1 with w | w
      · rw [w.2] at h2; exact h2
      · exact (Y2 i k).mpr (Or.inr ⟨w.1, hp.2.2 i j k w.2 (Yle j k h2)⟩)
  have hX2 : XA s1 a2 (axDrop x k0) := by
    refine ⟨e4.trans hX.1, hX.2.1, fun k hk => ?_⟩
    rw [F1 2 (by decide) (by decide) (by decide), F1 3 (by decide) (by decide) (by decide), ha1, up_self, up_ne _ _ (show (3 : Nat) ≠ 2 by decide), lfI_drop]
    obtain ⟨q1, q2⟩ := hX.2.2 k hk
    by_cases e : k = k0
    · rw [e, upd_at, if_pos rfl]; rw [e] at q2; exact ⟨rfl, q2⟩
    · rw [upd_ne _ _ e, if_neg e]; exact ⟨q1, q2⟩
  have gat : ∀ i j, i < nc → hr nc j → (g (21 * i + j) = 1 ↔ a' 6 (21 * i + j) = 1 ∧ ¬ Tch x k0 i) ∧ (g (21 * i + j) = 0 ↔ a' 6 (21 * i + j) = 0) ∧ (g (21 * i + j) = 2 ↔ a' 6 (21 * i + j) = 2 ∧ ¬ Tch x k0 i) := by
    intro i j hi hj
    obtain ⟨p1, p2⟩ := hf i j (by omega) (hr_lt hn hj)
    by_cases t : Tch x k0 i
    · by_cases v : a' 6 (21 * i + j) = 1 ∨ a' 6 (21 * i + j) = 2
      · rw [p1 ⟨hi, t, v⟩]
        rcases v with v | v <;> rw [v] <;> simp [t]
      · rw [p2 (fun w => v w.2.2)]
        simp only [not_or] at v
        simp [t, v.1, v.2]
    · rw [p2 (fun w => t w.2.1)]
      simp [t]
  have hTab : Tab nc g := by
    intro i j hi hj
    obtain ⟨p1, p2⟩ := hf i j hi hj
    by_cases t : i < nc ∧ Tch x k0 i ∧ (a' 6 (21 * i + j) = 1 ∨ a' 6 (21 * i + j) = 2)
    · exact Or.inl (p1 t)
    · rw [p2 t]; exact hE.1 i j hi hj
  generalize ha4 : va_up (va_up a' 14 h) 6 g = a4' at e3
  have a46 : a4' 6 = g := by rw [← ha4, up_self]
  have a4p : ∀ p, p ≠ 14 → p ≠ 6 → a4' p = a' p := fun p h1 h2 => by rw [← ha4, up_ne _ _ h2, up_ne _ _ h1]
  have hA5 : MA (upd s' 6 0) (va_up a4' 4 (upd (a4' 4) k0 0)) nc (axDrop x k0) := by
    obtain ⟨q1, q2, q3, q4, q5⟩ := hA
    refine ⟨q1, q2, q3, q4, fun k hk => ?_⟩
    rw [up_ne _ _ (show (1 : Nat) ≠ 4 by decide), up_ne _ _ (show (2 : Nat) ≠ 4 by decide), up_ne _ _ (show (3 : Nat) ≠ 4 by decide), up_self, a4p 1 (by decide) (by decide), a4p 2 (by decide) (by decide), a4p 3 (by decide) (by decide), a4p 4 (by decide) (by decide)]
    obtain ⟨w1, w2, w3, w4, w5, w6, w7⟩ := q5 k hk
    refine ⟨w1, w2, w3, w4, w5, w6, ?_⟩
    show upd (a' 4) k0 0 k = bI (if k = k0 then false else x.2.2.2.2 k)
    by_cases e : k = k0
    · rw [e, upd_at, if_pos rfl]; rfl
    · rw [upd_ne _ _ e, if_neg e]; exact w7
  have a56 : va_up a4' 4 (upd (a4' 4) k0 0) 6 = g := by rw [up_ne _ _ (show (6 : Nat) ≠ 4 by decide), a46]
  have key := retell (s := s1) (a := a2) (s' := upd s' 6 0) (a' := va_up a4' 4 (upd (a4' 4) k0 0)) hn (Axw_drop hw k0) hX2 hA5 (by rw [a56]; exact hTab) hs2 hp2 ?_ ?_ ?_ ?_ ?_ ?_
  · obtain ⟨a3, f1, k1, k2, k3, k4, k5⟩ := key
    obtain ⟨t1, t2, t3⟩ := tell_sub hn (Axw_drop hw k0) hX2 hs2 hp2 k1
    have Yle3 : ∀ i j, Yx a3 i j → Yx a i j := by
      intro i j q
      refine Yst_le hp (fun p w u => ?_) ((t1 i j).mp q)
      rcases u with u | u
      · exact Yle p w u
      · have u2 : aloneP x x.1 p w := aloneP_drop u
        have : p < nc ∧ hr nc w := by
          obtain ⟨k, hk, h1, h2, h3, h4⟩ := u2
          obtain ⟨w1, w2, w3, w4⟩ := hw k hk
          rw [← h3, ← h4]; exact ⟨w1, w3⟩
        exact hself p w this.1 this.2 (self_iff.mpr (Or.inr u2))
    refine ⟨z, a2, a3, a4', f1, e1, e2, k1, fun p h7 h8 h9 h10 => (k2 p h7 h8 h9 h10).trans (F1 p h7 h8 h10), e3, a4p, k3, k4, k5, ?_, MA_up6 hA5 f1, ?_⟩
    · refine ⟨hX2.1, hX2.2.1, fun k hk => ?_⟩
      rw [k2 2 (by decide) (by decide) (by decide) (by decide), k2 3 (by decide) (by decide) (by decide) (by decide)]
      exact hX2.2.2 k hk
    · intro i j hi hj q
      rw [kn_iff k4 k5 hi hj] at q
      rw [kn_iff hK hE hi hj]
      refine ⟨q.1, ?_⟩
      rcases q.2 with q | q | q
      · exact Or.inl (Yle3 i j q)
      · obtain ⟨p, w, u1, u2, u3⟩ := t2 i j q
        exact Or.inr (Or.inl (hNc p w i j ((N2 p w).mp u1) (Yle3 _ _ u2) (Yle3 _ _ u3)))
      · exact Or.inr (Or.inr ((O2 i j).mp (t3 i j q)).1)
  · intro i j hi hj q
    rw [a56] at q
    have q := (gat i j hi hj).1.mp q
    exact (Y2 i j).mpr (Or.inr ⟨q.2, (hE.2 i j hi hj).1.mp q.1⟩)
  · intro i j q
    rcases (Y2 i j).mp q with w | w
    · exact Or.inr (Or.inl w.2.symm)
    · obtain ⟨h1, h2⟩ := hs.2.2.1 i j w.2
      rcases h1 with h1 | h1
      · exact Or.inr (Or.inr ⟨h1, h2, by rw [a56]; exact (gat i j h1 h2).1.mpr ⟨(hE.2 i j h1 h2).1.mpr w.2, w.1⟩⟩)
      · exact Or.inl h1
  · intro i j
    rw [N2, Enc_tN hK hE]
    unfold tN
    rw [a56]
    exact ⟨fun q => ⟨q.1, q.2.1, (gat i j q.1 q.2.1).2.1.mpr q.2.2⟩, fun q => ⟨q.1, q.2.1, (gat i j q.1 q.2.1).2.1.mp q.2.2⟩⟩
  · intro i j
    rw [O2, Enc_O hK hE, a56]
    exact ⟨fun q => ⟨q.1.1, q.1.2.1, (gat i j q.1.1 q.1.2.1).2.2.mpr ⟨q.1.2.2, q.2⟩⟩, fun q => ⟨⟨q.1, q.2.1, ((gat i j q.1 q.2.1).2.2.mp q.2.2).1⟩, ((gat i j q.1 q.2.1).2.2.mp q.2.2).2⟩⟩
  · intro i j hi hj q
    rw [a56] at q
    have q := (gat i j hi hj).1.mp q
    exact Der_keep (fun k hk => by
      obtain ⟨w1, w2, w3, w4⟩ := hw k hk
      exact ⟨by omega, by omega⟩) hk0 q.2 (hYD i j ((hE.2 i j hi hj).1.mp q.1))
  · intro i j q hd
    unfold tN at q
    rw [a56] at q
    have q2 := (gat i j q.1 q.2.1).2.1.mp q.2.2
    exact hND i j ((hE.2 i j q.1 q.2.1).2.1.mp q2) (Der_drop hd)
theorem x_isThere {nc : Nat} (hn : nc ≤ 20) {s : jS} {a : jB} {x : jAx} (hw : Axw nc x) (hA : XA s a x) {k : Nat} (hk : k < x.1) : m_XA_isThere s a (nI k) = some (bI (x.2.2.2.2 k)) := by
  have h40 := hA.2.1
  unfold m_XA_isThere
  rw [x_leftOf hA (by omega), jb_s, if_pos hk]
  have := lfI_z hn hw hk
  cases h : x.2.2.2.2 k with
  | false => rw [if_pos (this.mpr (by rw [h]; decide))]; rfl
  | true => rw [if_neg (fun q => (this.mp q) h)]; rfl
theorem x_isThere0 {s : jS} {a : jB} {x : jAx} (hA : XA s a x) {p : Int32} (h : jin p x.1 = false) : m_XA_isThere s a p = some 0 := by
  have h40 := hA.2.1
  unfold m_XA_isThere m_XA_leftOf
  rw [hA.1]
  by_cases h0 : p < 0
  · rw [if_pos h0]; rfl
  · rw [if_neg h0, if_pos ((nIle_iff (by omega) p).mpr ((jin_f h).resolve_left (fun q => h0 ((lt0_iff p).mpr q))))]; rfl
theorem M_before (s : jS) (a : jB) (kk : jS → jB → Option (Int32 × jS × jB)) : ∃ g, (∀ n, n < 420 → g n = a 6 n) ∧ L_M_remove_25 kk jF s a 0 = kk s (va_up a 7 g) := by
  have key := lp_out0 (fun f (g : Nat → Int32) y => L_M_remove_25 kk f s (va_up a 7 g) y) (fun k g => ∀ n, n < k → g n = a 6 n) 420 (fun o => ∃ g, (∀ n, n < 420 → g n = a 6 n) ∧ o = kk s (va_up a 7 g)) (by decide) ?_ ?_ (a 7) ?_
  · rw [up_id] at key; exact key
  · intro f k g hk hI
    left
    refine ⟨upd g k (a 6 k), ?_, ?_⟩
    · intro n hn
      by_cases e : n = k
      · rw [e, upd_at]
      · rw [upd_ne _ _ e]; exact hI n (by omega)
    · show L_M_remove_25 kk (f + 1) s (va_up a 7 g) (nI k) = _
      rw [L_M_remove_25, if_neg (show ¬ (420 : Int32) ≤ nI k from j_lt (n := 420) hk (by decide)), jg_nI hk (by decide), jg_nI hk (by decide), nI_clamp (by omega), up_self, up_up, up_ne _ _ (show (6 : Nat) ≠ 7 by decide), nI_1]
  · intro f g hI
    refine ⟨g, hI, ?_⟩
    show L_M_remove_25 kk (f + 1) s _ (nI 420) = _
    rw [L_M_remove_25, if_pos (show (420 : Int32) ≤ nI 420 by decide)]
  · intro n hn; omega
theorem nI_sub' (m n : Nat) : nI (m + n) - nI m = nI n := by
  rw [Nat.add_comm, ← nI_add, Int32.add_sub_cancel]
theorem s_remove : sim_remove Rel := by
  rintro s a s' a' p0 ⟨nc, nt, fu, x, mem, pl, hR⟩
  have hR' := hR
  obtain ⟨⟨c1, c2, c3, c4⟩, ⟨d0, d1, d2, d3, d4, d5, d6, d7⟩, ⟨e1, e2, e3⟩, ⟨f1, f2, f3⟩, ⟨g1, g2⟩, h1⟩ := hR'
  have bad : ∃ v s1 a1 s2 a2, some ((-1 : Int32), s, a) = some (v, s1, a1) ∧ some ((-1 : Int32), s', a') = some (v, s2, a2) ∧ Rel s1 a1 s2 a2 := ⟨-1, s, a, s', a', rfl, rfl, nc, nt, fu, x, mem, pl, hR⟩
  have h40 := d5.2.1
  unfold m_X_remove m_M_remove
  rw [e1.2.2.1]
  cases hj : jin p0 x.1 with
  | false =>
    rw [x_isThere0 d5 hj, jb_s, if_pos rfl]
    by_cases h0 : p0 < 0
    · rw [if_pos h0]; exact bad
    · rw [if_neg h0, if_pos ((nIle_iff (by omega) p0).mpr ((jin_f hj).resolve_left (fun q => h0 ((lt0_iff p0).mpr q))))]; exact bad
  | true =>
    obtain ⟨k0, hk0, rfl⟩ := jin_ex (by omega) hj
    rw [x_isThere c1 c4 d5 hk0, jb_s, if_neg (nI_pos (by omega)), if_neg (j_lt hk0 (by omega)), jg_nI (by omega) (by decide), nI_clamp (by omega), (e1.2.2.2.2 k0 hk0).2.2.2.2.2.2]
    cases ht0 : x.2.2.2.2 k0 with
    | false => rw [if0f, if0f]; exact bad
    | true =>
      rw [if0t, if0t, d0, known_cnt c1 g1 g2, jb_s]
      obtain ⟨gb, hgb, eb⟩ := M_before s' a' (fun s1 a2 => jb2 (m_M_forget s1 a2 (nI k0) 1) (fun s6 a7 => jg (jin (nI k0) 40) (jb2 (m_M_close (upd s6 6 0) (va_up a7 4 (upd (a7 4) k0 0))) (fun s9 a10 => L_M_remove_76 s9 a10 (fun x12 => some (x12, s9, a10)) jF 0 0))))
      rw [eb]
      have hA7 : MA s' (va_up a' 7 gb) nc x := MA_same e1 rfl rfl (fun p _ _ => by rw [up_ne _ _ (by omega)])
      have hE7 : Enc nc a (va_up a' 7 gb 6) := by rw [up_ne _ _ (by decide)]; exact g2
      obtain ⟨z, a2, a3, a4', ff, k1, k2, k3, k4, k5, k6, k7, k8, k9, k10, k11, k12⟩ := dropAxiom c1 c4 g1 hE7 hk0 ht0 d5 hA7 (s1 := upd s 5 (s 5 - 1)) (a1 := va_up a 2 (upd (a 2) k0 0)) rfl rfl
      have kp : ∀ p, p ≠ 2 → p ≠ 7 → p ≠ 8 → p ≠ 9 → p ≠ 10 → a3 p = a p := fun p h2 h7 h8 h9 h10 => by rw [k4 p h7 h8 h9 h10, up_ne _ _ h2]
      have kq : ∀ p, p ≠ 4 → p ≠ 6 → p ≠ 7 → p ≠ 14 → va_up (va_up a4' 4 (upd (a4' 4) k0 0)) 6 ff p = a' p := fun p h4 h6 h7 h14 => by rw [up_ne _ _ h6, up_ne _ _ h4, k6 p h14 h6, up_ne _ _ h7]
      rw [k1, jb_s, show m_XA_drop s a (nI k0) = some (upd s 5 (s 5 - 1), va_up a 2 (upd (a 2) k0 0)) by
        unfold m_XA_drop
        rw [x_isThere c1 c4 d5 hk0, jb_s, ht0, if0t, jg_nI (by omega) (by decide), nI_clamp (by omega)], jb2_s, k2, jb2_s, k3, jb2_s, k5, jb2_s, jg_nI (by omega) (by decide), k7, jb2_s, M_lost, up_self, up_ne _ _ (show (7 : Nat) ≠ 6 by decide), up_ne _ _ (show (7 : Nat) ≠ 4 by decide), k6 7 (by decide) (by decide), up_self]
      rw [show upd (upd s 5 (s 5 - 1)) 3 0 0 = nI nc from d0, known_cnt c1 k8 k9, jb_s]
      have cnt : cb (fun n => decide (a' 6 n ≠ 3)) 420 = cb (fun n => decide (ff n ≠ 3)) 420 + cb (fun n => decide (gb n ≠ 3) && decide (ff n = 3)) 420 := by
        rw [cb_split (q := fun n => decide (ff n ≠ 3))]
        · rw [cb_congr (p := fun i => decide (a' 6 i ≠ 3) && !decide (ff i ≠ 3)) (q := fun n => decide (gb n ≠ 3) && decide (ff n = 3))]
          intro i hi
          rw [hgb i hi]
          by_cases e : ff i = 3 <;> simp [e]
        · intro n hn
          simp only [decide_eq_true_eq]
          have := k12 (n / 21) (n % 21) (by omega) (by omega)
          rw [show 21 * (n / 21) + n % 21 = n by omega, up_ne _ _ (by decide)] at this
          exact this
      rw [cnt, nI_sub']
      refine ⟨_, _, _, _, _, rfl, rfl, nc, nt, fu, axDrop x k0, mem, pl, ⟨c1, c2, c3, c4⟩, ⟨d0, d1, d2, rfl, Or.inl rfl, k10, ?_, d7⟩, ⟨k11, e2, e3⟩, ⟨?_, ?_, f3⟩, ⟨k8, ?_⟩, fun q => absurd q (by show ¬ (0 : Int32) = 1; decide)⟩
      · show s 5 - 1 = nI (cb (fun k => if k = k0 then false else x.2.2.2.2 k) x.1)
        rw [d6, cb_split (p := x.2.2.2.2) (q := fun k => if k = k0 then false else x.2.2.2.2 k) (fun i _ q => by
          split at q
          · cases q
          · exact q)]
        have one : cb (fun i => x.2.2.2.2 i && !(if i = k0 then false else x.2.2.2.2 i)) x.1 = 1 := by
          have : ∀ n, cb (fun i => x.2.2.2.2 i && !(if i = k0 then false else x.2.2.2.2 i)) n = if k0 < n then 1 else 0 := by
            intro n
            induction n with
            | zero => rfl
            | succ n ih =>
              rw [cb, ih]
              by_cases e : n = k0
              · subst e
                simp [ht0]
              · by_cases e2 : k0 < n
                · simp [e, e2, show k0 < n + 1 by omega]
                · simp [e, e2, show ¬ k0 < n + 1 by omega]
          rw [this, if_pos hk0]
        rw [one, nI_pred]
      · intro t ht
        rw [kp 12 (by decide) (by decide) (by decide) (by decide) (by decide)]
        exact f1 t ht
      · intro t c ht hc
        rw [kq 5 (by decide) (by decide) (by decide) (by decide)]
        exact f2 t c ht hc
      · rw [up_self]; exact k9

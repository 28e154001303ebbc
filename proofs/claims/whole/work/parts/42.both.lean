/-! both sides: what is known -/
def KI (nc : Nat) (x : jAx) (a : jB) : Prop := Xs nc a ∧ Pre nc (Yx a) ∧ (∀ i j, i < nc → hr nc j → selfB x i j = true → Yx a i j) ∧ (∀ p q c d, Nx a p q → Yx a p c → Yx a d q → Nx a c d) ∧ (∀ i j, Ox a i j → ¬ Yx a i j ∧ ¬ Nx a i j) ∧ (∀ i j, Yx a i j → Der x i j) ∧ (∀ i j, Nx a i j → ¬ Der x i j) ∧ ∀ i j, Ox a i j → i < nc
theorem KI_N {nc : Nat} {x : jAx} {a : jB} (h : KI nc x a) {i j : Nat} (hN : Nx a i j) : i < nc := by
  rcases (h.1.2.2.2.1 i j hN).1 with q | q
  · exact q
  · subst q
    exact absurd (h.2.2.2.2.2.1 20 j (h.2.1.2.1 j (h.1.2.2.2.1 _ j hN).2)) (h.2.2.2.2.2.2.1 _ _ hN)
theorem KI_NY {nc : Nat} {x : jAx} {a : jB} (h : KI nc x a) {i j : Nat} (hN : Nx a i j) : ¬ Yx a i j := fun q => h.2.2.2.2.2.2.1 _ _ hN (h.2.2.2.2.2.1 _ _ q)
def Enc (nc : Nat) (a : jB) (f : Nat → Int32) : Prop := Tab nc f ∧ ∀ i j, i < nc → hr nc j → (f (21 * i + j) = 1 ↔ Yx a i j) ∧ (f (21 * i + j) = 0 ↔ Nx a i j) ∧ (f (21 * i + j) = 2 ↔ Ox a i j)
theorem close_both {nc : Nat} {x : jAx} {s : jS} {a : jB} {s' : jS} {a' : jB} (hn : nc ≤ 20) (hA : MA s' a' nc x) (hT : Tab nc (a' 6)) (hs : Xs nc a) (hp : Pre nc (Yx a)) (hY : ∀ i j, Yx a i j ↔ Yst nc (tB nc x (a' 6)) i j) (hN : ∀ i j, Nx a i j ↔ tN nc (a' 6) i j) (hO : ∀ i j, Ox a i j ↔ i < nc ∧ hr nc j ∧ a' 6 (21 * i + j) = 2) (hD : ∀ i j, tB nc x (a' 6) i j → Der x i j) (hND : ∀ i j, tN nc (a' 6) i j → ¬ Der x i j) :
    ∃ a1 f1, m_XK_close s a = some (s, a1) ∧ (∀ p, p ≠ 9 → p ≠ 10 → a1 p = a p) ∧ m_M_close s' a' = some (s', va_up a' 6 f1) ∧ KI nc x a1 ∧ Enc nc a1 f1 := by
  have hYD : ∀ i j, Yst nc (tB nc x (a' 6)) i j → Der x i j := fun i j h => Yst_le (Der_pre x nc) hD h
  obtain ⟨f1, e1, t1, c1⟩ := M_close hA hT (fun i j h q => hND i j h (hYD i j q))
  obtain ⟨g9, g10, e2, c9, c10⟩ := x_close (s := s) hn hs hp
  have hNst : ∀ i j, Nst (Yx a) (Nx a) i j ↔ Nst (Yst nc (tB nc x (a' 6))) (tN nc (a' 6)) i j := by
    intro i j
    constructor
    · rintro ⟨p, q, h1, h2, h3⟩
      exact ⟨p, q, (hN _ _).mp h1, (hY _ _).mp h2, (hY _ _).mp h3⟩
    · rintro ⟨p, q, h1, h2, h3⟩
      exact ⟨p, q, (hN _ _).mpr h1, (hY _ _).mpr h2, (hY _ _).mpr h3⟩
  have Y1 : ∀ i j, Yx (va_up (va_up a 9 g9) 10 g10) i j ↔ Yx a i j := fun i j => by rw [Yx_up (by decide), Yx_up (by decide)]
  have N1 : ∀ i j, Nx (va_up (va_up a 9 g9) 10 g10) i j ↔ Nst (Yx a) (Nx a) i j := by
    intro i j
    rw [Nx_up (by decide)]
    unfold Nx
    rw [up_self]
    constructor
    · rintro ⟨hi, q⟩; exact (c9 i j hi).mp q
    · intro q
      obtain ⟨p, r, h1, h2, h3⟩ := id q
      have hi : i < 21 := hr_lt hn (hs.2.2.1 _ _ h2).2
      exact ⟨hi, (c9 i j hi).mpr q⟩
  have O1 : ∀ i j, Ox (va_up (va_up a 9 g9) 10 g10) i j ↔ Ox a i j ∧ ¬ Yx a i j ∧ ¬ Nst (Yx a) (Nx a) i j := by
    intro i j
    constructor
    · rintro ⟨hi, q⟩
      rw [up_self] at q
      exact (c10 i j hi).mp q
    · intro q
      refine ⟨q.1.1, ?_⟩
      rw [up_self]
      exact (c10 i j q.1.1).mpr q
  have hNDer : ∀ i j, Nst (Yx a) (Nx a) i j → ¬ Der x i j := by
    rintro i j ⟨p, q, h1, h2, h3⟩ hd
    have d1 := hYD _ _ ((hY _ _).mp h2)
    have d3 := hYD _ _ ((hY _ _).mp h3)
    exact hND p q ((hN _ _).mp h1) ((Der_pre x nc).2.2 _ _ _ d1 ((Der_pre x nc).2.2 _ _ _ hd d3))
  have hNhr : ∀ i j, Nst (Yx a) (Nx a) i j → hr nc i ∧ hr nc j := by
    rintro i j ⟨p, q, h1, h2, h3⟩
    exact ⟨(hs.2.2.1 _ _ h2).2, (hs.2.2.1 _ _ h3).1⟩
  refine ⟨_, f1, e2, fun p h1 h2 => by rw [up_ne _ _ h2, up_ne _ _ h1], e1, ⟨⟨?_, ?_, ?_, ?_, ?_⟩, ?_, ?_, ?_, ?_, ?_, ?_, ?_⟩, t1, ?_⟩
  · intro i j hi hj
    rw [up_ne _ _ (by decide), up_ne _ _ (by decide), up_ne _ _ (by decide), up_ne _ _ (by decide)]
    exact hs.1 i j hi hj
  · intro j i hj q
    rw [up_ne _ _ (by decide), up_ne _ _ (by decide)] at q
    exact hs.2.1 j i hj q
  · intro i j q; exact hs.2.2.1 i j ((Y1 i j).mp q)
  · intro i j q; exact hNhr i j ((N1 i j).mp q)
  · intro i j q; exact hs.2.2.2.2 i j ((O1 i j).mp q).1
  · exact ⟨fun i h => (Y1 i i).mpr (hp.1 i h), fun j h => (Y1 20 j).mpr (hp.2.1 j h), fun i j k h1 h2 => (Y1 i k).mpr (hp.2.2 i j k ((Y1 i j).mp h1) ((Y1 j k).mp h2))⟩
  · intro i j hi hj hself
    exact (Y1 i j).mpr ((hY i j).mpr (Yst_in ⟨hi, hj, Or.inr hself⟩))
  · intro p q c d h1 h2 h3
    obtain ⟨u, v, n1, n2, n3⟩ := (N1 p q).mp h1
    exact (N1 c d).mpr ⟨u, v, n1, hp.2.2 _ _ _ n2 ((Y1 _ _).mp h2), hp.2.2 _ _ _ ((Y1 _ _).mp h3) n3⟩
  · intro i j q
    have := (O1 i j).mp q
    exact ⟨fun z => this.2.1 ((Y1 i j).mp z), fun z => this.2.2 ((N1 i j).mp z)⟩
  · intro i j q; exact hYD i j ((hY i j).mp ((Y1 i j).mp q))
  · intro i j q; exact hNDer i j ((N1 i j).mp q)
  · intro i j q; exact ((hO i j).mp ((O1 i j).mp q).1).1
  · intro i j hi hj
    obtain ⟨k1, k0, k2⟩ := c1 i j hi hj
    refine ⟨k1.trans (((hY i j).symm).trans (Y1 i j).symm), k0.trans ((hNst i j).symm.trans (N1 i j).symm), k2.trans ?_⟩
    rw [O1, hO, hNst, hY]
    exact ⟨fun q => ⟨⟨hi, hj, q.1⟩, q.2⟩, fun q => ⟨q.1.2.2, q.2⟩⟩
/-- the told of a table that knows what is known -/
theorem Enc_tB {nc : Nat} {x : jAx} {a : jB} {f : Nat → Int32} (hn : nc ≤ 20) (hK : KI nc x a) (hE : Enc nc a f) (i j : Nat) : Yx a i j ↔ Yst nc (tB nc x f) i j := by
  constructor
  · intro h
    obtain ⟨hi, hj⟩ := hK.1.2.2.1 i j h
    rcases hi with hi | hi
    · exact Yst_in ⟨hi, hj, Or.inl ((hE.2 i j hi hj).1.mpr h)⟩
    · subst hi; exact (Yst_pre nc _).2.1 j hj
  · intro h
    refine Yst_le hK.2.1 (fun p q z => ?_) h
    rcases z.2.2 with w | w
    · exact (hE.2 p q z.1 z.2.1).1.mp w
    · exact hK.2.2.1 p q z.1 z.2.1 w
theorem Enc_tN {nc : Nat} {x : jAx} {a : jB} {f : Nat → Int32} (hK : KI nc x a) (hE : Enc nc a f) (i j : Nat) : Nx a i j ↔ tN nc f i j := by
  constructor
  · intro h
    have hi := KI_N hK h
    have hj := (hK.1.2.2.2.1 i j h).2
    exact ⟨hi, hj, (hE.2 i j hi hj).2.1.mpr h⟩
  · intro h
    exact (hE.2 i j h.1 h.2.1).2.1.mp h.2.2
theorem Enc_O {nc : Nat} {x : jAx} {a : jB} {f : Nat → Int32} (hK : KI nc x a) (hE : Enc nc a f) (i j : Nat) : Ox a i j ↔ i < nc ∧ hr nc j ∧ f (21 * i + j) = 2 := by
  constructor
  · intro h
    have hi := hK.2.2.2.2.2.2.2 i j h
    have hj := (hK.1.2.2.2.2 i j h).2
    exact ⟨hi, hj, (hE.2 i j hi hj).2.2.mpr h⟩
  · intro h
    exact (hE.2 i j h.1 h.2.1).2.2.mp h.2.2

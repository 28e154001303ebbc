/-! both sides: told anew -/
theorem self_iff {x : jAx} {i j : Nat} : selfB x i j = true ↔ i = j ∨ aloneP x x.1 i j := by
  unfold selfB aloneP
  simp only [Bool.or_eq_true, decide_eq_true_eq]
  rw [anyB_iff]
  constructor
  · rintro (h | ⟨k, hk, h⟩)
    · exact Or.inl h
    · simp only [selfP, Bool.and_eq_true, decide_eq_true_eq] at h
      exact Or.inr ⟨k, hk, h.1, h.2.2.1, h.2.1, h.2.2.2⟩
  · rintro (h | ⟨k, hk, h1, h2, h3, h4⟩)
    · exact Or.inl h
    · exact Or.inr ⟨k, hk, by simp [selfP, h1, h2, h3, h4]⟩
theorem retell {nc : Nat} {x : jAx} {s : jS} {a : jB} {s' : jS} {a' : jB} (hn : nc ≤ 20) (hw : Axw nc x) (hX : XA s a x) (hA : MA s' a' nc x) (hT : Tab nc (a' 6)) (hs : Xs nc a) (hp : Pre nc (Yx a))
    (c1 : ∀ i j, i < nc → hr nc j → a' 6 (21 * i + j) = 1 → Yx a i j) (c2 : ∀ i j, Yx a i j → i = 20 ∨ i = j ∨ (i < nc ∧ hr nc j ∧ a' 6 (21 * i + j) = 1))
    (hN : ∀ i j, Nx a i j ↔ tN nc (a' 6) i j) (hO : ∀ i j, Ox a i j ↔ i < nc ∧ hr nc j ∧ a' 6 (21 * i + j) = 2) (hD : ∀ i j, i < nc → hr nc j → a' 6 (21 * i + j) = 1 → Der x i j) (hND : ∀ i j, tN nc (a' 6) i j → ¬ Der x i j) :
    ∃ a1 f1, m_X_tellAxioms s a = some (s, a1) ∧ (∀ p, p ≠ 7 → p ≠ 8 → p ≠ 9 → p ≠ 10 → a1 p = a p) ∧ m_M_close s' a' = some (s', va_up a' 6 f1) ∧ KI nc x a1 ∧ Enc nc a1 f1 := by
  obtain ⟨a1, e1, t1, t2, t3, t4⟩ := x_tellAll hn hw hX hs hp (fun s12 a13 => jb2 (m_XK_close s12 a13) (fun s24 a25 => some (s24, a25)))
  have key := close_both (s := s) (a := a1) hn hA hT t2 t3 ?_ ?_ ?_ ?_ hND
  · obtain ⟨a2, f1, k1, k2, k3, k4, k5⟩ := key
    refine ⟨a2, f1, ?_, fun p h7 h8 h9 h10 => (k2 p h9 h10).trans (t1 p h7 h8), k3, k4, k5⟩
    unfold m_X_tellAxioms
    rw [e1]
    rw [k1]
    rfl
  · intro i j
    rw [t4]
    have al : ∀ p q, aloneP x x.1 p q → p < nc ∧ hr nc q := by
      rintro p q ⟨k, hk, h1, h2, h3, h4⟩
      obtain ⟨w1, w2, w3, w4⟩ := hw k hk
      rw [← h3, ← h4]
      exact ⟨w1, w3⟩
    refine Yst_congr (fun p q z => ?_) (fun p q z => ?_) i j
    · rcases z with z | z
      · have hh := hs.2.2.1 p q z
        rcases c2 p q z with w | w | w
        · rw [w]; exact (Yst_pre _ _).2.1 q hh.2
        · rw [w]; exact (Yst_pre _ _).1 q hh.2
        · exact Yst_in ⟨w.1, w.2.1, Or.inl w.2.2⟩
      · have hh := al p q z
        exact Yst_in ⟨hh.1, hh.2, Or.inr (self_iff.mpr (Or.inr z))⟩
    · rcases z.2.2 with w | w
      · exact Yst_in (Or.inl (c1 p q z.1 z.2.1 w))
      · rcases self_iff.mp w with u | u
        · rw [u]; exact (Yst_pre _ _).1 q z.2.1
        · exact Yst_in (Or.inr u)
  · intro i j; rw [t1.N]; exact hN i j
  · intro i j; rw [t1.O]; exact hO i j
  · intro i j z
    rcases z.2.2 with w | w
    · exact hD i j z.1 z.2.1 w
    · exact Der_self w
/-- an axiom more -/
def axAdd (x : jAx) (l o r : Nat) : jAx := (x.1 + 1, (fun k => if k = x.1 then l else x.2.1 k), (fun k => if k = x.1 then o else x.2.2.1 k), (fun k => if k = x.1 then r else x.2.2.2.1 k), fun k => if k = x.1 then true else x.2.2.2.2 k)
theorem axAdd_old {x : jAx} {l o r k : Nat} (hk : k < x.1) : (axAdd x l o r).2.1 k = x.2.1 k ∧ (axAdd x l o r).2.2.1 k = x.2.2.1 k ∧ (axAdd x l o r).2.2.2.1 k = x.2.2.2.1 k ∧ (axAdd x l o r).2.2.2.2 k = x.2.2.2.2 k := by
  have e : ¬ k = x.1 := by omega
  simp [axAdd, e]
theorem axAdd_new {x : jAx} {l o r : Nat} : (axAdd x l o r).2.1 x.1 = l ∧ (axAdd x l o r).2.2.1 x.1 = o ∧ (axAdd x l o r).2.2.2.1 x.1 = r ∧ (axAdd x l o r).2.2.2.2 x.1 = true := by
  simp [axAdd]
theorem Der_add {x : jAx} {l o r i j : Nat} : Der (axDrop (axAdd x l o r) x.1) i j ↔ Der x i j := by
  have hc : ∀ F, Cld (axDrop (axAdd x l o r) x.1) F ↔ Cld x F := by
    intro F
    constructor
    · intro h k hk ht h1 h2
      obtain ⟨e1, e2, e3, e4⟩ := axAdd_old (l := l) (o := o) (r := r) hk
      have := h k (show k < x.1 + 1 by omega) (show (if k = x.1 then false else (axAdd x l o r).2.2.2.2 k) = true by rw [if_neg (by omega), e4]; exact ht)
      have := this (show F ((axAdd x l o r).2.1 k) by rw [e1]; exact h1) (show (axAdd x l o r).2.2.1 k = 20 ∨ F ((axAdd x l o r).2.2.1 k) by rw [e2]; exact h2)
      rw [← e3]; exact this
    · intro h k hk ht h1 h2
      have ht : (if k = x.1 then false else (axAdd x l o r).2.2.2.2 k) = true := ht
      by_cases e : k = x.1
      · rw [if_pos e] at ht; cases ht
      · rw [if_neg e] at ht
        have hk' : k < x.1 := by have : k < x.1 + 1 := hk; omega
        obtain ⟨e1, e2, e3, e4⟩ := axAdd_old (l := l) (o := o) (r := r) hk'
        have h1 : F ((axAdd x l o r).2.1 k) := h1
        have h2 : (axAdd x l o r).2.2.1 k = 20 ∨ F ((axAdd x l o r).2.2.1 k) := h2
        show F ((axAdd x l o r).2.2.2.1 k)
        rw [e1] at h1; rw [e2] at h2; rw [e4] at ht; rw [e3]
        exact h k hk' ht h1 h2
  exact ⟨fun h F hF hi => h F ((hc F).mpr hF) hi, fun h F hF hi => h F ((hc F).mp hF) hi⟩
theorem Axw_add {nc : Nat} {x : jAx} (hw : Axw nc x) {l o r : Nat} (hl : l < nc) (ho : o < nc ∨ o = 20) (hr0 : hr nc r) (hne : l ≠ o) : Axw nc (axAdd x l o r) := by
  intro k hk
  have hk : k < x.1 + 1 := hk
  by_cases e : k = x.1
  · subst e
    obtain ⟨e1, e2, e3, e4⟩ := axAdd_new (x := x) (l := l) (o := o) (r := r)
    rw [e1, e2, e3]
    exact ⟨hl, ho, hr0, hne⟩
  · obtain ⟨e1, e2, e3, e4⟩ := axAdd_old (x := x) (l := l) (o := o) (r := r) (show k < x.1 by omega)
    rw [e1, e2, e3]
    exact hw k (by omega)
/-- what the new axiom's coming leaves on both sides, before telling anew -/
theorem addAxiom {nc : Nat} {x : jAx} {s : jS} {a : jB} {s' : jS} {a' : jB} (hn : nc ≤ 20) (hw : Axw nc x) (hK : KI nc x a) {f0 : Nat → Int32} (hE : Enc nc a f0) {l o r : Nat} (hl : l < nc) (ho : o < nc ∨ o = 20) (hr0 : hr nc r) (hne : l ≠ o)
    (hX : XA s a (axAdd x l o r)) (hA : MA s' a' nc (axAdd x l o r)) (e6 : a' 6 = f0) :
    ∃ z a0 h g a1 f1, m_XA_touchedBy s a (nI x.1) = some z ∧ m_XK_forgetNo s a z = some (s, a0) ∧ m_X_tellAxioms s a0 = some (s, a1) ∧ (∀ p, p ≠ 7 → p ≠ 8 → p ≠ 9 → p ≠ 10 → a1 p = a p) ∧ m_M_forget s' a' (nI x.1) 0 = some (s', va_up (va_up a' 14 h) 6 g) ∧ m_M_close s' (va_up (va_up a' 14 h) 6 g) = some (s', va_up (va_up a' 14 h) 6 f1) ∧ KI nc (axAdd x l o r) a1 ∧ Enc nc a1 f1 := by
  have hw' := Axw_add hw hl ho hr0 hne
  obtain ⟨hs, hp, hself, hNc, hOd, hYD, hND, hOi⟩ := id hK
  obtain ⟨z, hz, e1⟩ := x_touchedBy hn hw' hX (k0 := x.1) (show x.1 < x.1 + 1 by omega) axAdd_new.2.2.2
  obtain ⟨g9, g10, e2, hg⟩ := x_forgetNo (s := s) (a := a) hz
  obtain ⟨g, h, hf, e3⟩ := M_forget hA (k0 := x.1) (show x.1 < x.1 + 1 by omega) 0
  have hT20 : ∀ c, Tch (axAdd x l o r) x.1 c → c < 20 := by
    intro c h
    have hb : Bck (axAdd x l o r) (fun c => c < 20) := fun k hk _ _ => by
      obtain ⟨w1, w2, w3, w4⟩ := hw' k hk
      exact ⟨by omega, fun h0 => by omega⟩
    obtain ⟨w1, w2, w3, w4⟩ := hw' x.1 (show x.1 < x.1 + 1 by omega)
    exact h (fun c => c < 20) hb (by omega) (fun h0 => by omega)
  rw [e6] at hf
  generalize ha0 : va_up (va_up a 9 g9) 10 g10 = a0 at e2
  have Y0 : ∀ i j, Yx a0 i j ↔ Yx a i j := fun i j => by rw [← ha0, Yx_up (by decide), Yx_up (by decide)]
  have N0 : ∀ i j, Nx a0 i j ↔ Nx a i j ∧ ¬ Tch (axAdd x l o r) x.1 i := by
    intro i j
    rw [← ha0, Nx_up (by decide)]
    unfold Nx
    rw [up_self]
    constructor
    · rintro ⟨hi, q⟩
      by_cases t : Tch (axAdd x l o r) x.1 i ∧ i < 20
      · rw [((hg i hi).1 t).1, b_0] at q; cases q
      · rw [((hg i hi).2 t).1] at q
        exact ⟨⟨hi, q⟩, fun w => t ⟨w, hT20 i w⟩⟩
    · rintro ⟨⟨hi, q⟩, t⟩
      refine ⟨hi, ?_⟩
      rw [((hg i hi).2 (fun w => t w.1)).1]; exact q
  have O0 : ∀ i j, Ox a0 i j ↔ Ox a i j ∧ ¬ Tch (axAdd x l o r) x.1 i := by
    intro i j
    rw [← ha0]
    unfold Ox
    rw [up_self]
    constructor
    · rintro ⟨hi, q⟩
      by_cases t : Tch (axAdd x l o r) x.1 i ∧ i < 20
      · rw [((hg i hi).1 t).2, b_0] at q; cases q
      · rw [((hg i hi).2 t).2] at q
        exact ⟨⟨hi, q⟩, fun w => t ⟨w, hT20 i w⟩⟩
    · rintro ⟨⟨hi, q⟩, t⟩
      refine ⟨hi, ?_⟩
      rw [((hg i hi).2 (fun w => t w.1)).2]; exact q
  have hA1 : MA s' (va_up (va_up a' 14 h) 6 g) nc (axAdd x l o r) := MA_same hA rfl rfl (fun p _ _ => by rw [up_ne _ _ (by omega), up_ne _ _ (by omega)])
  have gat : ∀ i j, i < nc → hr nc j → (g (21 * i + j) = 1 ↔ f0 (21 * i + j) = 1) ∧ (g (21 * i + j) = 0 ↔ f0 (21 * i + j) = 0 ∧ ¬ Tch (axAdd x l o r) x.1 i) ∧ (g (21 * i + j) = 2 ↔ f0 (21 * i + j) = 2 ∧ ¬ Tch (axAdd x l o r) x.1 i) := by
    intro i j hi hj
    obtain ⟨p1, p2⟩ := hf i j (by omega) (hr_lt hn hj)
    by_cases t : Tch (axAdd x l o r) x.1 i
    · by_cases v : f0 (21 * i + j) = 0 ∨ f0 (21 * i + j) = 2
      · rw [p1 ⟨hi, t, v⟩]
        rcases v with v | v <;> rw [v] <;> simp [t]
      · rw [p2 (fun w => v w.2.2)]
        simp only [not_or] at v
        simp [t, v.1, v.2]
    · rw [p2 (fun w => t w.2.1)]
      simp [t]
  have hTab : Tab nc g := by
    intro i j hi hj
    obtain ⟨p1, p2⟩ := hf i j hi hj
    by_cases t : i < nc ∧ Tch (axAdd x l o r) x.1 i ∧ (f0 (21 * i + j) = 0 ∨ f0 (21 * i + j) = 2)
    · exact Or.inl (p1 t)
    · rw [p2 t]; exact hE.1 i j hi hj
  have hX0 : XA s a0 (axAdd x l o r) := ⟨hX.1, hX.2.1, fun k hk => by rw [← ha0, up_ne _ _ (by decide), up_ne _ _ (by decide), up_ne _ _ (by decide), up_ne _ _ (by decide)]; exact hX.2.2 k hk⟩
  have hs0 : Xs nc a0 := by
    refine ⟨?_, ?_, fun i j q => hs.2.2.1 i j ((Y0 i j).mp q), fun i j q => hs.2.2.2.1 i j ((N0 i j).mp q).1, fun i j q => hs.2.2.2.2 i j ((O0 i j).mp q).1⟩
    · intro i j hi hj
      rw [← ha0, up_ne _ _ (by decide), up_ne _ _ (by decide), up_ne _ _ (by decide), up_ne _ _ (by decide)]
      exact hs.1 i j hi hj
    · intro j i hj q
      rw [← ha0, up_ne _ _ (by decide), up_ne _ _ (by decide)] at q
      exact hs.2.1 j i hj q
  have hp0 : Pre nc (Yx a0) := ⟨fun i h => (Y0 i i).mpr (hp.1 i h), fun j h => (Y0 20 j).mpr (hp.2.1 j h), fun i j k h1 h2 => (Y0 i k).mpr (hp.2.2 i j k ((Y0 i j).mp h1) ((Y0 j k).mp h2))⟩
  have key := retell (s := s) (a := a0) (s' := s') (a' := va_up (va_up a' 14 h) 6 g) hn hw' hX0 hA1 (by rw [up_self]; exact hTab) hs0 hp0 ?_ ?_ ?_ ?_ ?_ ?_
  · obtain ⟨a1, f1, k1, k2, k3, k4, k5⟩ := key
    rw [up_up] at k3
    refine ⟨z, a0, h, g, a1, f1, e1, e2, k1, ?_, e3, k3, k4, k5⟩
    intro p h7 h8 h9 h10
    rw [k2 p h7 h8 h9 h10, ← ha0, up_ne _ _ h10, up_ne _ _ h9]
  · intro i j hi hj q
    rw [up_self] at q
    exact (Y0 i j).mpr ((hE.2 i j hi hj).1.mp ((gat i j hi hj).1.mp q))
  · intro i j q
    have q := (Y0 i j).mp q
    obtain ⟨h1, h2⟩ := hs.2.2.1 i j q
    rcases h1 with h1 | h1
    · exact Or.inr (Or.inr ⟨h1, h2, by rw [up_self]; exact (gat i j h1 h2).1.mpr ((hE.2 i j h1 h2).1.mpr q)⟩)
    · exact Or.inl h1
  · intro i j
    rw [N0, Enc_tN hK hE]
    unfold tN
    rw [up_self]
    exact ⟨fun q => ⟨q.1.1, q.1.2.1, (gat i j q.1.1 q.1.2.1).2.1.mpr ⟨q.1.2.2, q.2⟩⟩, fun q => ⟨⟨q.1, q.2.1, ((gat i j q.1 q.2.1).2.1.mp q.2.2).1⟩, ((gat i j q.1 q.2.1).2.1.mp q.2.2).2⟩⟩
  · intro i j
    rw [O0, Enc_O hK hE, up_self]
    exact ⟨fun q => ⟨q.1.1, q.1.2.1, (gat i j q.1.1 q.1.2.1).2.2.mpr ⟨q.1.2.2, q.2⟩⟩, fun q => ⟨⟨q.1, q.2.1, ((gat i j q.1 q.2.1).2.2.mp q.2.2).1⟩, ((gat i j q.1 q.2.1).2.2.mp q.2.2).2⟩⟩
  · intro i j hi hj q
    rw [up_self] at q
    have := hYD i j ((hE.2 i j hi hj).1.mp ((gat i j hi hj).1.mp q))
    exact Der_drop (Der_add.mpr this)
  · intro i j q hd
    unfold tN at q
    rw [up_self] at q
    have q2 := (gat i j q.1 q.2.1).2.1.mp q.2.2
    have hk := Der_keep (x := axAdd x l o r) (k0 := x.1) (fun k hk => by
      obtain ⟨w1, w2, w3, w4⟩ := hw' k hk
      exact ⟨by omega, w2.imp (fun z => by omega) id⟩) (show x.1 < x.1 + 1 by omega) q2.2 hd
    exact hND i j ((hE.2 i j q.1 q.2.1).2.1.mp q2.1) (Der_add.mp hk)

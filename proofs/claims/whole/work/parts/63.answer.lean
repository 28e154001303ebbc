/-! one answer of a run -/
theorem rsn_three (x : jAx) (g : Nat) : ∀ (d : Nat) (F : Nat → Bool) (l : List Nat), (rsn x g d F l).1 = 0 ∨ (rsn x g d F l).1 = 1 ∨ (rsn x g d F l).1 = 2 := by
  intro d
  induction d with
  | zero =>
    intro F l
    rw [rsn]
    split
    · exact Or.inr (Or.inl rfl)
    · split
      · exact Or.inl rfl
      · exact Or.inr (Or.inr rfl)
  | succ d ih =>
    intro F l
    rw [rsn]
    split
    · exact Or.inr (Or.inl rfl)
    · split
      · exact Or.inl rfl
      · exact ih _ _
theorem rsn_sound (x : jAx) (g : Nat) : ∀ (d : Nat) (F : Nat → Bool) (l : List Nat), (rsn x g d F l).1 = 1 → ∀ G : Nat → Prop, Cld x G → (∀ c, F c = true → G c) → G g ∨ G 20 := by
  intro d
  induction d with
  | zero =>
    intro F l h G hG hF
    rw [rsn] at h
    split at h
    · rename_i q
      rw [Bool.or_eq_true] at q
      exact q.imp (hF _) (hF _)
    · split at h
      · exact absurd (show (0 : Int32) = 1 from h) (by decide)
      · exact absurd (show (2 : Int32) = 1 from h) (by decide)
  | succ d ih =>
    intro F l h G hG hF
    rw [rsn] at h
    split at h
    · rename_i q
      rw [Bool.or_eq_true] at q
      exact q.imp (hF _) (hF _)
    · split at h
      · exact absurd (show (0 : Int32) = 1 from h) (by decide)
      · rename_i k hk
        refine ih _ _ h G hG (fun c hc => ?_)
        unfold insB at hc
        simp only [Bool.or_eq_true, decide_eq_true_eq] at hc
        rcases hc with hc | hc
        · exact hF c hc
        · obtain ⟨q1, q2, q3⟩ := (fstB_spec _ _).1 k hk
          unfold canB at q2
          simp only [Bool.and_eq_true, Bool.or_eq_true, decide_eq_true_eq] at q2
          rw [hc]
          exact hG k q1 q2.1 (hF _ q2.2.1) (q2.2.2.1.imp id (hF _))
theorem rsn_zero (x : jAx) (g : Nat) : ∀ (d : Nat) (F : Nat → Bool) (l : List Nat), (rsn x g d F l).1 = 0 → (rsn x g d F l).2.1 g = false ∧ (rsn x g d F l).2.1 20 = false ∧ fstB (canB x (rsn x g d F l).2.1) x.1 = none := by
  intro d
  induction d with
  | zero =>
    intro F l h
    rw [rsn] at h ⊢
    cases h1 : F g with
    | true => rw [h1] at h; exact absurd (show (1 : Int32) = 0 from h) (by decide)
    | false =>
      cases h2 : F 20 with
      | true => rw [h1, h2] at h; exact absurd (show (1 : Int32) = 0 from h) (by decide)
      | false =>
        rw [h1, h2] at h
        cases h3 : fstB (canB x F) x.1 with
        | some k => rw [h3] at h; exact absurd (show (2 : Int32) = 0 from h) (by decide)
        | none => exact ⟨h1, h2, h3⟩
  | succ d ih =>
    intro F l h
    rw [rsn] at h ⊢
    cases h1 : F g with
    | true => rw [h1] at h; exact absurd (show (1 : Int32) = 0 from h) (by decide)
    | false =>
      cases h2 : F 20 with
      | true => rw [h1, h2] at h; exact absurd (show (1 : Int32) = 0 from h) (by decide)
      | false =>
        rw [h1, h2] at h
        cases h3 : fstB (canB x F) x.1 with
        | some k => rw [h3] at h; exact ih _ _ h
        | none => exact ⟨h1, h2, h3⟩
theorem rsn_yes {x : jAx} {i j d : Nat} (h : (rsn x j d (oneB i) []).1 = 1) : Der x i j := fun G hG hi => rsn_sound x j d _ _ h G hG (fun c hc => by
  unfold oneB at hc
  rw [decide_eq_true_eq] at hc
  rw [hc]; exact hi)
theorem rsn_no {x : jAx} {i j d : Nat} (h : (rsn x j d (oneB i) []).1 = 0) : ¬ Der x i j := by
  obtain ⟨h1, h2, h3⟩ := rsn_zero x j d _ _ h
  intro q
  have := q (fun c => (rsn x j d (oneB i) []).2.1 c = true) (fun k hk ht hl ho => ?_) (rsn_mono x j d _ _ i (by unfold oneB; exact decide_eq_true rfl))
  · rcases this with w | w
    · rw [h1] at w; cases w
    · rw [h2] at w; cases w
  · have := (fstB_spec _ _).2 h3 k hk
    cases e : (rsn x j d (oneB i) []).2.1 (x.2.2.2.1 k) with
    | true => exact e
    | false =>
      unfold canB at this
      rw [ht, hl, e] at this
      rcases ho with ho | ho
      · rw [ho] at this; exact absurd this (by simp)
      · rw [ho] at this; exact absurd this (by simp)
/-- one pair learnt on both sides -/
theorem learn_both {nc : Nat} {x : jAx} {s : jS} {a : jB} {s' : jS} {a' : jB} (hn : nc ≤ 20) (hA : MA s' a' nc x) (hK : KI nc x a) (hE : Enc nc a (a' 6)) {i j : Nat} (hi : i < nc) (hj : hr nc j) (h3 : a' 6 (21 * i + j) = 3) {v : Int32} (hv : v = 0 ∨ v = 1 ∨ v = 2) (hv1 : v = 1 → Der x i j) (hv0 : v = 0 → ¬ Der x i j) :
    ∃ a1 f1, m_XK_learn s a (nI i) (nI j) v = some (s, a1) ∧ (∀ p, p ≠ 7 → p ≠ 8 → p ≠ 9 → p ≠ 10 → a1 p = a p) ∧ m_M_close s' (va_up a' 6 (upd (a' 6) (21 * i + j) v)) = some (s', va_up a' 6 f1) ∧ KI nc x a1 ∧ Enc nc a1 f1 := by
  obtain ⟨hs, hp, hself, hNc, hOd, hYD, hND, hOi⟩ := id hK
  have hj21 := hr_lt hn hj
  have hat : ∀ p q, p < 20 → q < 21 → ∀ w, (upd (a' 6) (21 * i + j) v (21 * p + q) = w ↔ (p = i ∧ q = j ∧ w = v) ∨ (¬ (p = i ∧ q = j) ∧ a' 6 (21 * p + q) = w)) := by
    intro p q hp hq w
    rw [set2_at _ _ hj21 hq]
    by_cases e : p = i ∧ q = j
    · rw [if_pos e]
      exact ⟨fun z => Or.inl ⟨e.1, e.2, z.symm⟩, fun z => z.elim (fun u => u.2.2.symm) (fun u => absurd e u.1)⟩
    · rw [if_neg e]
      exact ⟨fun z => Or.inr ⟨e, z⟩, fun z => z.elim (fun u => absurd ⟨u.1, u.2.1⟩ e) (fun u => u.2)⟩
  have hT : Tab nc (va_up a' 6 (upd (a' 6) (21 * i + j) v) 6) := by
    rw [up_self]
    intro p q hp hq
    rw [set2_at _ _ hj21 hq]
    by_cases e : p = i ∧ q = j
    · rw [if_pos e, e.1, e.2]; exact Or.inr ⟨hi, hj, hv⟩
    · rw [if_neg e]; exact hE.1 p q hp hq
  have hA1 := MA_up6 hA (upd (a' 6) (21 * i + j) v)
  have old1 : ∀ p q, p < nc → hr nc q → a' 6 (21 * p + q) ≠ 3 → ¬ (p = i ∧ q = j) := by
    rintro p q _ _ h ⟨rfl, rfl⟩; exact h h3
  -- the parts that do not depend on v
  have tBold : ∀ p q, tB nc x (a' 6) p q → tB nc x (upd (a' 6) (21 * i + j) v) p q := by
    rintro p q ⟨z1, z2, z3⟩
    refine ⟨z1, z2, z3.imp (fun w => ?_) id⟩
    exact (hat p q (by omega) (hr_lt hn z2) 1).mpr (Or.inr ⟨old1 p q z1 z2 (by rw [w]; decide), w⟩)
  have tBnew : ∀ p q, tB nc x (upd (a' 6) (21 * i + j) v) p q → (p = i ∧ q = j ∧ v = 1) ∨ Yx a p q := by
    rintro p q ⟨z1, z2, z3⟩
    rcases z3 with w | w
    · rcases (hat p q (by omega) (hr_lt hn z2) 1).mp w with u | u
      · exact Or.inl ⟨u.1, u.2.1, u.2.2.symm⟩
      · exact Or.inr ((hE.2 p q z1 z2).1.mp u.2)
    · exact Or.inr (hself p q z1 z2 w)
  have tNiff : ∀ p q, tN nc (upd (a' 6) (21 * i + j) v) p q ↔ (p = i ∧ q = j ∧ v = 0) ∨ Nx a p q := by
    intro p q
    rw [Enc_tN hK hE]
    constructor
    · rintro ⟨z1, z2, z3⟩
      rcases (hat p q (by omega) (hr_lt hn z2) 0).mp z3 with u | u
      · exact Or.inl ⟨u.1, u.2.1, u.2.2.symm⟩
      · exact Or.inr ⟨z1, z2, u.2⟩
    · rintro (⟨z1, z2, z3⟩ | ⟨z1, z2, z3⟩)
      · rw [z1, z2]; exact ⟨hi, hj, (hat i j (by omega) hj21 0).mpr (Or.inl ⟨rfl, rfl, z3.symm⟩)⟩
      · exact ⟨z1, z2, (hat p q (by omega) (hr_lt hn z2) 0).mpr (Or.inr ⟨old1 p q z1 z2 (by rw [z3]; decide), z3⟩)⟩
  have Oiff : ∀ p q, (p < nc ∧ hr nc q ∧ upd (a' 6) (21 * i + j) v (21 * p + q) = 2) ↔ (p = i ∧ q = j ∧ v = 2) ∨ Ox a p q := by
    intro p q
    rw [Enc_O hK hE]
    constructor
    · rintro ⟨z1, z2, z3⟩
      rcases (hat p q (by omega) (hr_lt hn z2) 2).mp z3 with u | u
      · exact Or.inl ⟨u.1, u.2.1, u.2.2.symm⟩
      · exact Or.inr ⟨z1, z2, u.2⟩
    · rintro (⟨z1, z2, z3⟩ | ⟨z1, z2, z3⟩)
      · rw [z1, z2]; exact ⟨hi, hj, (hat i j (by omega) hj21 2).mpr (Or.inl ⟨rfl, rfl, z3.symm⟩)⟩
      · exact ⟨z1, z2, (hat p q (by omega) (hr_lt hn z2) 2).mpr (Or.inr ⟨old1 p q z1 z2 (by rw [z3]; decide), z3⟩)⟩
  have hD : ∀ p q, tB nc x (upd (a' 6) (21 * i + j) v) p q → Der x p q := by
    intro p q z
    rcases tBnew p q z with u | u
    · rw [u.1, u.2.1]; exact hv1 u.2.2
    · exact hYD p q u
  have hND' : ∀ p q, tN nc (upd (a' 6) (21 * i + j) v) p q → ¬ Der x p q := by
    intro p q z
    rcases (tNiff p q).mp z with u | u
    · rw [u.1, u.2.1]; exact hv0 u.2.2
    · exact hND p q u
  have Yup : ∀ p q, Yx a p q → Yst nc (tB nc x (upd (a' 6) (21 * i + j) v)) p q := fun p q z => Yst_le (Yst_pre _ _) (fun p q w => Yst_in (tBold p q w)) ((Enc_tB hn hK hE p q).mp z)
  unfold m_XK_learn
  rcases hv with rfl | rfl | rfl
  · rw [if_neg (by decide), if_pos rfl, jg_nI (by omega) (by decide), x_bit, jb_s, jg_nI (by omega) (by decide), nI_clamp (by omega)]
    generalize ha0 : va_up a 9 (upd (a 9) i (a 9 i ||| b1 j)) = a0
    have Y0 : ∀ p q, Yx a0 p q ↔ Yx a p q := fun p q => by rw [← ha0, Yx_up (by decide)]
    have O0 : ∀ p q, Ox a0 p q ↔ Ox a p q := fun p q => by rw [← ha0, Ox_up (by decide)]
    have N0 : ∀ p q, Nx a0 p q ↔ (p = i ∧ q = j) ∨ Nx a p q := by
      intro p q
      rw [← ha0]
      unfold Nx
      rw [up_self]
      by_cases e : p = i
      · rw [e, upd_at, b_or, b_b1 (by omega), Bool.or_eq_true, decide_eq_true_eq]
        constructor
        · rintro ⟨z1, z2 | z2⟩
          · exact Or.inr ⟨z1, z2⟩
          · exact Or.inl ⟨rfl, z2⟩
        · rintro (z | z)
          · exact ⟨by omega, Or.inr z.2⟩
          · exact ⟨z.1, Or.inl z.2⟩
      · rw [upd_ne _ _ e]
        exact ⟨Or.inr, fun z => z.elim (fun u => absurd u.1 e) id⟩
    have hs0 : Xs nc a0 := by
      refine ⟨?_, ?_, fun p q z => hs.2.2.1 p q ((Y0 p q).mp z), fun p q z => ?_, fun p q z => hs.2.2.2.2 p q ((O0 p q).mp z)⟩
      · intro p q h1 h2; rw [← ha0, up_ne _ _ (by decide), up_ne _ _ (by decide)]; exact hs.1 p q h1 h2
      · intro q p h1 h2; rw [← ha0, up_ne _ _ (by decide)] at h2; exact hs.2.1 q p h1 h2
      · rcases (N0 p q).mp z with u | u
        · rw [u.1, u.2]; exact ⟨Or.inl hi, hj⟩
        · exact hs.2.2.2.1 p q u
    have hp0 : Pre nc (Yx a0) := ⟨fun i h => (Y0 i i).mpr (hp.1 i h), fun j h => (Y0 20 j).mpr (hp.2.1 j h), fun i j k h1 h2 => (Y0 i k).mpr (hp.2.2 i j k ((Y0 i j).mp h1) ((Y0 j k).mp h2))⟩
    have key := close_both (s := s) (a := a0) hn hA1 hT hs0 hp0 ?_ ?_ ?_ (by rw [up_self]; exact hD) (by rw [up_self]; exact hND')
    · obtain ⟨a1, f1, k1, k2, k3, k4, k5⟩ := key
      rw [up_up] at k3
      refine ⟨a1, f1, by rw [k1]; rfl, fun p h7 h8 h9 h10 => ?_, k3, k4, k5⟩
      rw [k2 p h9 h10, ← ha0, up_ne _ _ h9]
    · intro p q
      rw [up_self, Y0]
      refine ⟨Yup p q, fun z => Yst_le hp (fun p q w => ?_) z⟩
      rcases tBnew p q w with u | u
      · exact absurd u.2.2 (by decide)
      · exact u
    · intro p q
      rw [up_self, N0, tNiff]
      exact ⟨fun z => z.imp (fun u => ⟨u.1, u.2, rfl⟩) id, fun z => z.imp (fun u => ⟨u.1, u.2.1⟩) id⟩
    · intro p q
      rw [up_self, O0, Oiff]
      exact ⟨Or.inr, fun z => z.elim (fun u => absurd u.2.2 (by decide)) id⟩
  · rw [if_pos rfl]
    obtain ⟨a0, t1, t2, t3, t4, t5⟩ := x_tell (s := s) hn hs hp.2.2 (Or.inl hi) hj
    have hp0 : Pre nc (Yx a0) := ⟨fun i h => (t4 i i).mpr (Or.inl (hp.1 i h)), fun j h => (t4 20 j).mpr (Or.inl (hp.2.1 j h)), t5⟩
    have key := close_both (s := s) (a := a0) hn hA1 hT t3 hp0 ?_ ?_ ?_ (by rw [up_self]; exact hD) (by rw [up_self]; exact hND')
    · obtain ⟨a1, f1, k1, k2, k3, k4, k5⟩ := key
      rw [up_up] at k3
      refine ⟨a1, f1, by rw [t1, jb2_s, k1]; rfl, fun p h7 h8 h9 h10 => ?_, k3, k4, k5⟩
      rw [k2 p h9 h10, t2 p h7 h8]
    · intro p q
      rw [up_self, t4]
      constructor
      · rintro (z | ⟨z1, z2⟩)
        · exact Yup p q z
        · refine (Yst_pre _ _).2.2 _ _ _ (Yup p i z1) ((Yst_pre _ _).2.2 _ _ _ (Yst_in ⟨hi, hj, Or.inl ?_⟩) (Yup j q z2))
          exact (hat i j (by omega) hj21 1).mpr (Or.inl ⟨rfl, rfl, rfl⟩)
      · intro z
        refine (t4 p q).mp (Yst_le hp0 (fun p q w => (t4 p q).mpr ?_) z)
        rcases tBnew p q w with u | u
        · rw [u.1, u.2.1]; exact Or.inr ⟨hp.1 i (Or.inl hi), hp.1 j hj⟩
        · exact Or.inl u
    · intro p q
      rw [up_self, t2.N, tNiff]
      exact ⟨Or.inr, fun z => z.elim (fun u => absurd u.2.2 (by decide)) id⟩
    · intro p q
      rw [up_self, t2.O, Oiff]
      exact ⟨Or.inr, fun z => z.elim (fun u => absurd u.2.2 (by decide)) id⟩
  · rw [if_neg (by decide), if_neg (by decide), jg_nI (by omega) (by decide), x_bit, jb_s, jg_nI (by omega) (by decide), nI_clamp (by omega)]
    generalize ha0 : va_up a 10 (upd (a 10) i (a 10 i ||| b1 j)) = a0
    have Y0 : ∀ p q, Yx a0 p q ↔ Yx a p q := fun p q => by rw [← ha0, Yx_up (by decide)]
    have N0 : ∀ p q, Nx a0 p q ↔ Nx a p q := fun p q => by rw [← ha0, Nx_up (by decide)]
    have O0 : ∀ p q, Ox a0 p q ↔ (p = i ∧ q = j) ∨ Ox a p q := by
      intro p q
      rw [← ha0]
      unfold Ox
      rw [up_self]
      by_cases e : p = i
      · rw [e, upd_at, b_or, b_b1 (by omega), Bool.or_eq_true, decide_eq_true_eq]
        constructor
        · rintro ⟨z1, z2 | z2⟩
          · exact Or.inr ⟨z1, z2⟩
          · exact Or.inl ⟨rfl, z2⟩
        · rintro (z | z)
          · exact ⟨by omega, Or.inr z.2⟩
          · exact ⟨z.1, Or.inl z.2⟩
      · rw [upd_ne _ _ e]
        exact ⟨Or.inr, fun z => z.elim (fun u => absurd u.1 e) id⟩
    have hs0 : Xs nc a0 := by
      refine ⟨?_, ?_, fun p q z => hs.2.2.1 p q ((Y0 p q).mp z), fun p q z => hs.2.2.2.1 p q ((N0 p q).mp z), fun p q z => ?_⟩
      · intro p q h1 h2; rw [← ha0, up_ne _ _ (by decide), up_ne _ _ (by decide)]; exact hs.1 p q h1 h2
      · intro q p h1 h2; rw [← ha0, up_ne _ _ (by decide)] at h2; exact hs.2.1 q p h1 h2
      · rcases (O0 p q).mp z with u | u
        · rw [u.1, u.2]; exact ⟨Or.inl hi, hj⟩
        · exact hs.2.2.2.2 p q u
    have hp0 : Pre nc (Yx a0) := ⟨fun i h => (Y0 i i).mpr (hp.1 i h), fun j h => (Y0 20 j).mpr (hp.2.1 j h), fun i j k h1 h2 => (Y0 i k).mpr (hp.2.2 i j k ((Y0 i j).mp h1) ((Y0 j k).mp h2))⟩
    have key := close_both (s := s) (a := a0) hn hA1 hT hs0 hp0 ?_ ?_ ?_ (by rw [up_self]; exact hD) (by rw [up_self]; exact hND')
    · obtain ⟨a1, f1, k1, k2, k3, k4, k5⟩ := key
      rw [up_up] at k3
      refine ⟨a1, f1, by rw [k1]; rfl, fun p h7 h8 h9 h10 => ?_, k3, k4, k5⟩
      rw [k2 p h9 h10, ← ha0, up_ne _ _ h10]
    · intro p q
      rw [up_self, Y0]
      refine ⟨Yup p q, fun z => Yst_le hp (fun p q w => ?_) z⟩
      rcases tBnew p q w with u | u
      · exact absurd u.2.2 (by decide)
      · exact u
    · intro p q
      rw [up_self, N0, tNiff]
      exact ⟨Or.inr, fun z => z.elim (fun u => absurd u.2.2 (by decide)) id⟩
    · intro p q
      rw [up_self, O0, Oiff]
      exact ⟨fun z => z.imp (fun u => ⟨u.1, u.2, rfl⟩) id, fun z => z.imp (fun u => ⟨u.1, u.2.1⟩) id⟩
/-- what holds all through a run: P is placed, E is empty -/
def RI (nc nt fu : Nat) (x : jAx) (mem : Nat → Nat → Bool) (P E : Nat → Bool) (s : jS) (a : jB) (s' : jS) (a' : jB) : Prop :=
  (nc ≤ 20 ∧ nt ≤ 8 ∧ fu ≤ 20 ∧ Axw nc x) ∧
  (s 0 = nI nc ∧ s 1 = nI nt ∧ s 2 = s' 5 ∧ XA s a x ∧ s 5 = nI (cb x.2.2.2.2 x.1) ∧ s 6 = nI fu) ∧
  (MA s' a' nc x ∧ s' 2 = nI nt ∧ s' 4 = nI fu) ∧
  ((∀ t, t < 8 → a 12 t = bs (mem t) 20) ∧ MM a' mem ∧ ∀ t c, mem t c = true → c < nc) ∧
  (KI nc x a ∧ Enc nc a (a' 6)) ∧
  (s 11 = s' 8 ∧ XP P s ∧ s 10 = bs E 20 ∧ MP P a' ∧ ∀ c, P c = true → c < nc)
theorem answer_both {nc nt fu : Nat} {x : jAx} {mem : Nat → Nat → Bool} {P E : Nat → Bool} {s : jS} {a : jB} {s' : jS} {a' : jB} (hR : RI nc nt fu x mem P E s a s' a') {i j : Nat} (hi : i < nc) (hj : hr nc j) :
    ∃ v s1 a1 s2 a2, m_XO_answer s a (nI i) (nI j) = some (v, s1, a1) ∧ m_M_look s' a' (nI i) (nI j) = some (bI (decide (v = 1)), s2, a2) ∧ RI nc nt fu x mem P E s1 a1 s2 a2 ∧ a2 9 = a' 9 := by
  have hR' := hR
  obtain ⟨⟨c1, c2, c3, c4⟩, ⟨d0, d1, d2, d5, d6, d7⟩, ⟨e1, e2, e3⟩, ⟨f1, f2, f3⟩, ⟨g1, g2⟩, ⟨p1, p2, p3, p4, p5⟩⟩ := hR'
  have hj21 := hr_lt c1 hj
  have hi20 : i < 20 := by omega
  unfold m_XO_answer m_M_look
  rw [X_of c1 g1 g2 hi hj, jb_s, jb_s, jg_pair hi20 hj21, cl_pair hi20 hj21, jg_pair hi20 hj21]
  by_cases h3 : a' 6 (21 * i + j) = 3
  · rw [if_pos h3, if_pos h3, x_bit, jb_s, bs_one (by omega)]
    have hX : XA (upd s 11 (s 11 + 1)) a x := d5
    have hM : MA (upd s' 8 (s' 8 + 1)) a' nc x := e1
    obtain ⟨s8, a9, k1, k2⟩ := x_decide c1 c4 hX (fu := fu) d7 c3 hj21 (oneB i)
    obtain ⟨s3, a4, k3, k4, k5⟩ := M_reasonAlone hM (fu := fu) e3 c3 (show i < 21 by omega) hj21
    rw [k1, jb3_s, k3, jb3_s, jg_pair hi20 hj21]
    obtain ⟨x1, x2, x3, x4, x5⟩ := id k2
    obtain ⟨y1, y2, y3, y4, y5⟩ := id k4
    have a46 : a4 6 = a' 6 := y2 6 (by decide) (by decide) (by decide)
    have hK9 : KI nc x a9 := KI_same (x4 7 (by decide)) (x4 8 (by decide)) (x4 9 (by decide)) (x4 10 (by decide)) g1
    have hE9 : Enc nc a9 (a4 6) := by rw [a46]; exact Enc_same (x4 7 (by decide)) (x4 9 (by decide)) (x4 10 (by decide)) g2
    have s3i : ∀ q, q ≠ 7 → s3 q = upd s' 8 (s' 8 + 1) q := fun q h => by rw [y1]; exact upd_ne _ _ h
    have hM4 : MA s3 a4 nc x := MA_same hM (s3i 1 (by decide)) (s3i 3 (by decide)) (fun p h5 h6 => y2 p (by omega) (by omega) (by omega))
    obtain ⟨a1, ff, l1, l2, l3, l4, l5⟩ := learn_both (s := s8) c1 hM4 hK9 hE9 hi hj (by rw [a46]; exact h3) (rsn_three x j fu (oneB i) []) rsn_yes rsn_no
    rw [l1, jb2_s, X_of c1 l4 l5 hi hj, jb_s, l3, jb2_s, jg_pair hi20 hj21, up_self]
    refine ⟨_, s8, a1, s3, va_up a4 6 ff, rfl, ?_, ⟨⟨c1, c2, c3, c4⟩, ⟨?_, ?_, ?_, ?_, ?_, ?_⟩, ⟨?_, ?_, ?_⟩, ⟨?_, ?_, f3⟩, ⟨l4, ?_⟩, ⟨?_, ?_, ?_, ?_, p5⟩⟩, ?_⟩
    · by_cases e : ff (21 * i + j) = 1
      · rw [if_pos e, decide_eq_true e]; rfl
      · rw [if_neg e, decide_eq_false e]; rfl
    · exact (x1 0 (by decide) (by decide)).trans d0
    · exact (x1 1 (by decide) (by decide)).trans d1
    · rw [x1 2 (by decide) (by decide), s3i 5 (by decide)]; exact d2
    · exact ⟨(x1 4 (by decide) (by decide)).trans d5.1, d5.2.1, fun k hk => by rw [l2 2 (by decide) (by decide) (by decide) (by decide), l2 3 (by decide) (by decide) (by decide) (by decide), x4 2 (by decide), x4 3 (by decide)]; exact d5.2.2 k hk⟩
    · exact (x1 5 (by decide) (by decide)).trans d6
    · exact (x1 6 (by decide) (by decide)).trans d7
    · exact MA_up6 hM4 ff
    · rw [s3i 2 (by decide)]; exact e2
    · rw [s3i 4 (by decide)]; exact e3
    · intro t ht
      rw [l2 12 (by decide) (by decide) (by decide) (by decide), x4 12 (by decide)]; exact f1 t ht
    · intro t c ht hc
      rw [up_ne _ _ (by decide), y2 5 (by decide) (by decide) (by decide)]; exact f2 t c ht hc
    · rw [up_self]; exact l5
    · rw [x1 11 (by decide) (by decide), s3i 8 (by decide)]
      show s 11 + 1 = s' 8 + 1
      rw [p1]
    · unfold XP; rw [x1 9 (by decide) (by decide)]; exact p2
    · rw [x1 10 (by decide) (by decide)]; exact p3
    · intro c hc
      rw [up_ne _ _ (by decide), y2 8 (by decide) (by decide) (by decide)]; exact p4 c hc
    · rw [up_ne _ _ (by decide), y2 9 (by decide) (by decide) (by decide)]
  · rw [if_neg h3, if_neg h3]
    refine ⟨_, s, a, s', a', rfl, ?_, hR, rfl⟩
    by_cases e : a' 6 (21 * i + j) = 1
    · rw [if_pos e, decide_eq_true e]; rfl
    · rw [if_neg e, decide_eq_false e]; rfl

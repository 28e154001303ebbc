/-! the class: told and closed -/
theorem Yx_up {a : jB} {p : Nat} {g : Nat → Int32} (h : p ≠ 7) (i j : Nat) : Yx (va_up a p g) i j ↔ Yx a i j := by unfold Yx; rw [up_ne _ _ (by omega)]
theorem Nx_up {a : jB} {p : Nat} {g : Nat → Int32} (h : p ≠ 9) (i j : Nat) : Nx (va_up a p g) i j ↔ Nx a i j := by unfold Nx; rw [up_ne _ _ (by omega)]
theorem Ox_up {a : jB} {p : Nat} {g : Nat → Int32} (h : p ≠ 10) (i j : Nat) : Ox (va_up a p g) i j ↔ Ox a i j := by unfold Ox; rw [up_ne _ _ (by omega)]
/-- what a step on YES leaves alone -/
def Y78 (a a1 : jB) : Prop := ∀ p, p ≠ 7 → p ≠ 8 → a1 p = a p
theorem Y78.N {a a1 : jB} (h : Y78 a a1) (i j : Nat) : Nx a1 i j ↔ Nx a i j := by unfold Nx; rw [h 9 (by decide) (by decide)]
theorem Y78.O {a a1 : jB} (h : Y78 a a1) (i j : Nat) : Ox a1 i j ↔ Ox a i j := by unfold Ox; rw [h 10 (by decide) (by decide)]
theorem x_tell {nc : Nat} (hn : nc ≤ 20) {s : jS} {a : jB} (hs : Xs nc a) (hp : ∀ i j k, Yx a i j → Yx a j k → Yx a i k) {i j : Nat} (hi : hr nc i) (hj : hr nc j) :
    ∃ a1, m_XK_tellYes s a (nI i) (nI j) = some (s, a1) ∧ Y78 a a1 ∧ Xs nc a1 ∧ (∀ c d, Yx a1 c d ↔ Yx a c d ∨ (Yx a c i ∧ Yx a j d)) ∧ ∀ i j k, Yx a1 i j → Yx a1 j k → Yx a1 i k := by
  obtain ⟨g7, g8, e, h7, h8⟩ := x_tellYes (s := s) hn hs hp hi hj
  have hY : ∀ c d, Yx (va_up (va_up a 7 g7) 8 g8) c d ↔ Yx a c d ∨ (Yx a c i ∧ Yx a j d) := by
    intro c d
    unfold Yx
    rw [up_ne _ _ (show (7 : Nat) ≠ 8 by decide), up_self]
    constructor
    · rintro ⟨hc, q⟩
      exact (h7 c d hc).mp q
    · intro q
      have hc : c < 21 := q.elim (fun z => z.1) (fun z => z.1.1)
      exact ⟨hc, (h7 c d hc).mpr q⟩
  have h78 : Y78 a (va_up (va_up a 7 g7) 8 g8) := fun p h1 h2 => by rw [up_ne _ _ h2, up_ne _ _ h1]
  refine ⟨_, e, h78, ?_, hY, ?_⟩
  · refine ⟨?_, ?_, ?_, ?_, ?_⟩
    · intro c d hc hd
      rw [up_self, up_ne _ _ (show (7 : Nat) ≠ 8 by decide), up_self]
      rw [Bool.eq_iff_iff, h8 d c hd, h7 c d hc]
    · intro d c hd q
      rw [up_self] at q
      exact ((h8 d c hd).mp q).elim (fun z => z.1) (fun z => z.1.1)
    · intro c d q
      rcases (hY c d).mp q with z | z
      · exact hs.2.2.1 _ _ z
      · exact ⟨(hs.2.2.1 _ _ z.1).1, (hs.2.2.1 _ _ z.2).2⟩
    · intro c d q; exact hs.2.2.2.1 c d ((h78.N c d).mp q)
    · intro c d q; exact hs.2.2.2.2 c d ((h78.O c d).mp q)
  · intro p q r h1 h2
    rw [hY] at h1 h2 ⊢
    rcases h1 with h1 | h1 <;> rcases h2 with h2 | h2
    · exact Or.inl (hp _ _ _ h1 h2)
    · exact Or.inr ⟨hp _ _ _ h1 h2.1, h2.2⟩
    · exact Or.inr ⟨h1.1, hp _ _ _ h1.2 h2⟩
    · exact Or.inr ⟨h1.1, h2.2⟩
/-- the class's axioms -/
def Axw (nc : Nat) (x : jAx) : Prop := ∀ k, k < x.1 → x.2.1 k < nc ∧ (x.2.2.1 k < nc ∨ x.2.2.1 k = 20) ∧ hr nc (x.2.2.2.1 k) ∧ x.2.1 k ≠ x.2.2.1 k
def lfI (x : jAx) (k : Nat) : Int32 := if x.2.2.2.2 k = true then (if x.2.2.1 k = 20 then b1 (x.2.1 k) else b1 (x.2.1 k) ||| b1 (x.2.2.1 k)) else 0
def XA (s : jS) (a : jB) (x : jAx) : Prop := s 4 = nI x.1 ∧ x.1 ≤ 40 ∧ ∀ k, k < x.1 → a 2 k = lfI x k ∧ a 3 k = nI (x.2.2.2.1 k)
theorem x_leftOf {s : jS} {a : jB} {x : jAx} (hA : XA s a x) {k : Nat} (hk : k < 2 ^ 30) : m_XA_leftOf s a (nI k) = some (if k < x.1 then lfI x k else 0) := by
  obtain ⟨h1, h2, h3⟩ := hA
  unfold m_XA_leftOf
  rw [if_neg (nI_pos (by omega)), h1]
  by_cases q : k < x.1
  · rw [if_neg (j_lt q (by omega)), jg_nI (by omega) (by decide), nI_clamp (by omega), if_pos q, (h3 k q).1]; rfl
  · rw [if_pos (j_le (by omega) (by omega)), if_neg q]; rfl
theorem x_rightOf {s : jS} {a : jB} {x : jAx} (hA : XA s a x) {k : Nat} (hk : k < 2 ^ 30) : m_XA_rightOf s a (nI k) = some (if k < x.1 then nI (x.2.2.2.1 k) else 20) := by
  obtain ⟨h1, h2, h3⟩ := hA
  unfold m_XA_rightOf
  rw [if_neg (nI_pos (by omega)), h1]
  by_cases q : k < x.1
  · rw [if_neg (j_lt q (by omega)), jg_nI (by omega) (by decide), nI_clamp (by omega), if_pos q, (h3 k q).2]; rfl
  · rw [if_pos (j_le (by omega) (by omega)), if_neg q]; rfl
theorem cb_one : ∀ l, l < 20 → cb (bt (b1 l)) 21 = 1 := by decide +kernel
theorem cb_two : ∀ l, l < 20 → ∀ o, o < 20 → l ≠ o → cb (bt (b1 l ||| b1 o)) 21 = 2 := by decide +kernel
theorem cb_zero : cb (bt 0) 21 = 0 := by decide +kernel
theorem lfI_big {nc : Nat} (hn : nc ≤ 20) {x : jAx} (hw : Axw nc x) {k : Nat} (hk : k < x.1) {i : Nat} (hi : 21 ≤ i) : bt (lfI x k) i = false := by
  obtain ⟨w1, w2, w3, w4⟩ := hw k hk
  unfold lfI
  split
  · split
    · rw [b_b1 (by omega), decide_eq_false (by omega)]
    · rw [b_or, b_b1 (by omega), b_b1 (by omega), decide_eq_false (by omega), decide_eq_false (by omega)]; rfl
  · exact b_0 i
theorem x_cbl {nc : Nat} (hn : nc ≤ 20) {x : jAx} (hw : Axw nc x) {k : Nat} (hk : k < x.1) : m_JI_bitCount (lfI x k) = some (nI (if x.2.2.2.2 k = true then (if x.2.2.1 k = 20 then 1 else 2) else 0)) := by
  obtain ⟨w1, w2, w3, w4⟩ := hw k hk
  rw [x_bitCount (fun i hi => lfI_big hn hw hk hi)]
  congr 2
  unfold lfI
  split
  · split
    · exact cb_one _ (by omega)
    · exact cb_two _ (by omega) _ (by omega) w4
  · exact cb_zero
/-- what the axioms with one class on the left tell -/
def aloneP (x : jAx) (n i j : Nat) : Prop := ∃ k, k < n ∧ x.2.2.2.2 k = true ∧ x.2.2.1 k = 20 ∧ x.2.1 k = i ∧ x.2.2.2.1 k = j
theorem x_tellAll {nc : Nat} (hn : nc ≤ 20) {s : jS} {a : jB} {x : jAx} (hw : Axw nc x) (hA : XA s a x) (hs : Xs nc a) (hp : Pre nc (Yx a)) (kk : jS → jB → Option (jS × jB)) :
    ∃ a1, L_X_tellAxioms_2 kk jF s a 0 = kk s a1 ∧ Y78 a a1 ∧ Xs nc a1 ∧ Pre nc (Yx a1) ∧ ∀ i j, Yx a1 i j ↔ Yst nc (fun i j => Yx a i j ∨ aloneP x x.1 i j) i j := by
  obtain ⟨A1, A2, A3⟩ := id hA
  have key := lp_out0 (fun f (st : jB) z => L_X_tellAxioms_2 kk f s st z) (fun k st => Y78 a st ∧ Xs nc st ∧ Pre nc (Yx st) ∧ ∀ i j, Yx st i j ↔ Yst nc (fun i j => Yx a i j ∨ aloneP x (if k ≤ x.1 then k else x.1) i j) i j) 40 (fun o => ∃ a1, o = kk s a1 ∧ Y78 a a1 ∧ Xs nc a1 ∧ Pre nc (Yx a1) ∧ ∀ i j, Yx a1 i j ↔ Yst nc (fun i j => Yx a i j ∨ aloneP x x.1 i j) i j) (by decide) ?_ ?_ a ?_
  · exact key
  · intro f k st hk ⟨q1, q2, q3, q4⟩
    left
    have hA' : XA s st x := ⟨A1, A2, fun k hk => by rw [q1 2 (by decide) (by decide), q1 3 (by decide) (by decide)]; exact A3 k hk⟩
    have hlt : ¬ (40 : Int32) ≤ nI k := j_lt (n := 40) hk (by decide)
    by_cases hkx : k < x.1
    · obtain ⟨w1, w2, w3, w4⟩ := hw k hkx
      have hle : ∀ n : Nat, n ≤ x.1 → (if n ≤ x.1 then n else x.1) = n := fun n h => if_pos h
      by_cases hal : x.2.2.2.2 k = true ∧ x.2.2.1 k = 20
      · have e1 : lfI x k = b1 (x.2.1 k) := by unfold lfI; rw [if_pos hal.1, if_pos hal.2]
        obtain ⟨a1, t1, t2, t3, t4, t5⟩ := x_tell (s := s) hn q2 q3.2.2 (i := x.2.1 k) (j := x.2.2.2.1 k) (Or.inl w1) w3
        have hpre : Pre nc (Yx a1) := ⟨fun i hi => (t4 i i).mpr (Or.inl (q3.1 i hi)), fun j hj => (t4 20 j).mpr (Or.inl (q3.2.1 j hj)), t5⟩
        refine ⟨a1, ⟨fun p h1 h2 => (t2 p h1 h2).trans (q1 p h1 h2), t3, hpre, fun i j => ?_⟩, ?_⟩
        · rw [hle (k + 1) (by omega)]
          rw [hle k (by omega)] at q4
          constructor
          · intro h
            have sub : ∀ i j, Yx st i j → Yst nc (fun i j => Yx a i j ∨ aloneP x (k + 1) i j) i j := by
              intro i j h
              refine Yst_le (Yst_pre nc _) (fun p q z => Yst_in (z.imp id (fun ⟨m, m1, m2⟩ => ⟨m, by omega, m2⟩))) ((q4 i j).mp h)
            rcases (t4 i j).mp h with z | z
            · exact sub i j z
            · refine (Yst_pre nc _).2.2 _ _ _ (sub _ _ z.1) ((Yst_pre nc _).2.2 _ _ _ (Yst_in (Or.inr ⟨k, by omega, hal.1, hal.2, rfl, rfl⟩)) (sub _ _ z.2))
          · intro h
            refine Yst_le hpre (fun p q z => (t4 p q).mpr ?_) h
            rcases z with z | ⟨m, m1, m2, m3, m4, m5⟩
            · exact Or.inl ((q4 p q).mpr (Yst_in (Or.inl z)))
            · by_cases e : m = k
              · subst e
                right
                rw [← m4, ← m5]
                exact ⟨q3.1 _ (Or.inl w1), q3.1 _ w3⟩
              · exact Or.inl ((q4 p q).mpr (Yst_in (Or.inr ⟨m, by omega, m2, m3, m4, m5⟩)))
        · rw [L_X_tellAxioms_2, if_neg hlt, x_leftOf hA' (by omega), jb_s, if_pos hkx, x_cbl hn hw hkx, jb_s, if_pos hal.1, if_pos hal.2]
          rw [show nI 1 = (1 : Int32) from rfl, if_pos rfl, e1, x_ntz _ (by omega), jb_s, x_rightOf hA' (by omega), jb_s, if_pos hkx, t1, jb2_s, nI_1]
      · refine ⟨st, ⟨q1, q2, q3, fun i j => ?_⟩, ?_⟩
        · rw [hle (k + 1) (by omega)]
          rw [hle k (by omega)] at q4
          rw [q4]
          refine Yst_congr (fun p q z => Yst_in (z.imp id (fun ⟨m, m1, m2⟩ => ⟨m, by omega, m2⟩))) (fun p q z => Yst_in (z.imp id (fun ⟨m, m1, m2, m3, m4⟩ => ⟨m, ?_, m2, m3, m4⟩))) i j
          by_cases e : m = k
          · subst e; exact absurd ⟨m2, m3⟩ hal
          · omega
        · rw [L_X_tellAxioms_2, if_neg hlt, x_leftOf hA' (by omega), jb_s, if_pos hkx, x_cbl hn hw hkx, jb_s, nI_1]
          by_cases t : x.2.2.2.2 k = true
          · have : ¬ x.2.2.1 k = 20 := fun z => hal ⟨t, z⟩
            rw [if_pos t, if_neg this, if_neg (by decide)]
          · rw [if_neg t, if_neg (by decide)]
    · refine ⟨st, ⟨q1, q2, q3, fun i j => ?_⟩, ?_⟩
      · rw [q4 i j, show (if k ≤ x.1 then k else x.1) = x.1 by split <;> omega, if_neg (by omega)]
      · rw [L_X_tellAxioms_2, if_neg hlt, x_leftOf hA' (by omega), jb_s, if_neg hkx, x_bitCount (fun i _ => b_0 i), cb_zero, jb_s, if_neg (by decide), nI_1]
  · intro f st ⟨q1, q2, q3, q4⟩
    refine ⟨st, ?_, q1, q2, q3, fun i j => ?_⟩
    · show L_X_tellAxioms_2 kk (f + 1) s st (nI 40) = _
      rw [L_X_tellAxioms_2, if_pos (by decide)]
    · rw [q4 i j, show (if 40 ≤ x.1 then 40 else x.1) = x.1 by split <;> omega]
  · refine ⟨fun p _ _ => rfl, hs, hp, fun i j => ⟨fun h => Yst_in (Or.inl h), fun h => Yst_le hp (fun p q z => z.elim id (fun ⟨m, m1, _⟩ => ?_)) h⟩⟩
    simp at m1

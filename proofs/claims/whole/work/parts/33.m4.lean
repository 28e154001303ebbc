/-! the reference: closing, whole -/
def V2 (nc : Nat) (g1 : Nat → Int32) (i b : Nat) : Prop := hr nc b → g1 (21 * i + b) = 0 → ∀ c d, c < nc → blw g1 i c = true → hr nc d → blw g1 d b = true → kn g1 (21 * c + d) = true
theorem M_close127 {s : jS} {a : jB} {nc : Nat} (hs : s 1 = nI nc) (hn : nc ≤ 20) {YS NS : Nat → Nat → Prop} (hYN : YN nc YS NS) {g0 g1 : Nat → Int32} {V : Prop} {i : Nat} (hi : i < nc) (kk : kO) (st : (Nat → Int32) × Int32) (h : Prog nc YS NS g0 g1 V st) :
    ∃ st', Prog nc YS NS g0 g1 (V ∧ ∀ b, V2 nc g1 i b) st' ∧ L_M_closeOnce_127 (nI i) kk jF s (va_up a 6 st.1) st.2 0 = kk s (va_up a 6 st'.1) st'.2 := by
  refine lp_out0 (fun f (st : (Nat → Int32) × Int32) z => L_M_closeOnce_127 (nI i) kk f s (va_up a 6 st.1) st.2 z) (fun k st => Prog nc YS NS g0 g1 (V ∧ ∀ b, b < k → V2 nc g1 i b) st) 21 (fun o => ∃ st', Prog nc YS NS g0 g1 (V ∧ ∀ b, V2 nc g1 i b) st' ∧ o = kk s (va_up a 6 st'.1) st'.2) (by decide) ?_ ?_ st (h.mono (fun v => ⟨v, fun b hb => absurd hb (by omega)⟩))
  · intro f b st hb hI
    left
    by_cases q : hrB nc b = true
    · by_cases q0 : st.1 (21 * i + b) = 0
      · obtain ⟨st', hP, hE⟩ := M_spreadNo (a := a) hs hn hYN hi (hrB_iff.mp q) hI.1 q0
        have hturn : L_M_closeOnce_127 (nI i) kk (f + 1) s (va_up a 6 st.1) st.2 (nI b) = L_M_closeOnce_127 (nI i) kk f s (va_up a 6 st'.1) (if st'.2 = 0 then (if st.2 = 0 then 0 else 1) else 1) (nI (b + 1)) := by
          rw [L_M_closeOnce_127, if_neg (by rw [lt20_iff (by omega)]; omega), M_isHere hs hn hb, q, jb_s, if_neg (by decide), jg_pair (by omega) hb, cl_pair (by omega) hb, up_self, if_pos q0, hE, jb3_s, nI_1]
          by_cases e1 : st'.2 = 0
          · rw [if_pos e1, if_pos e1]
            by_cases e2 : st.2 = 0
            · rw [if_pos e2, if_pos e2]; rfl
            · rw [if_neg e2, if_neg e2]; rfl
          · rw [if_neg e1, if_neg e1]; rfl
        refine ⟨(st'.1, if st'.2 = 0 then (if st.2 = 0 then 0 else 1) else 1), ?_, hturn⟩
        rcases hP.2 with d | d
        · rw [if_pos d.1]
          refine ⟨hP.1, ?_⟩
          rcases hI.2 with d2 | d2
          · rw [if_pos d2.1]
            refine Or.inl ⟨rfl, d.2.1.trans d2.2.1, d2.2.2.1, fun b' hb' => ?_⟩
            by_cases e : b' = b
            · subst e
              intro _ _ c dd h1 h2 h3 h4
              have := d.2.2 c dd h1 (by rw [d2.2.1]; exact h2) h3 (by rw [d2.2.1]; exact h4)
              rwa [d2.2.1] at this
            · exact d2.2.2.2 b' (by omega)
          · rw [d2.1, if_neg (by decide)]
            exact Or.inr ⟨rfl, by show cnt g1 < cnt st'.1; rw [d.2.1]; exact d2.2⟩
        · rw [d.1, if_neg (by decide)]
          refine ⟨hP.1, Or.inr ⟨rfl, ?_⟩⟩
          show cnt g1 < cnt st'.1
          rcases hI.2 with d2 | d2
          · rw [← d2.2.1]; exact d.2
          · have := d.2; have := d2.2; omega
      · refine ⟨st, hI.mono2 (fun eg v => ⟨v.1, fun b' hb' => ?_⟩), ?_⟩
        · by_cases e : b' = b
          · subst e
            intro _ z
            rw [eg] at q0
            exact absurd z q0
          · exact v.2 b' (by omega)
        · rw [L_M_closeOnce_127, if_neg (by rw [lt20_iff (by omega)]; omega), M_isHere hs hn hb, q, jb_s, if_neg (by decide), jg_pair (by omega) hb, cl_pair (by omega) hb, up_self, if_neg q0, nI_1]
    · refine ⟨st, hI.mono (fun v => ⟨v.1, fun b' hb' => ?_⟩), ?_⟩
      · by_cases e : b' = b
        · subst e
          intro z
          exact absurd (hrB_iff.mpr z) q
        · exact v.2 b' (by omega)
      · rw [L_M_closeOnce_127, if_neg (by rw [lt20_iff (by omega)]; omega), M_isHere hs hn hb, Bool.eq_false_iff.mpr q, jb_s, if_pos (by decide), nI_1]
  · intro f st hI
    refine ⟨st, hI.mono (fun v => ⟨v.1, fun b hh => v.2 b (hr_lt hn hh) hh⟩), ?_⟩
    show L_M_closeOnce_127 (nI i) kk (f + 1) s (va_up a 6 st.1) st.2 (nI 21) = _
    rw [L_M_closeOnce_127, if_pos (by decide)]
theorem M_close117 {s : jS} {a : jB} {nc : Nat} (hs : s 1 = nI nc) (hn : nc ≤ 20) {YS NS : Nat → Nat → Prop} (hYN : YN nc YS NS) {g0 g1 : Nat → Int32} {V : Prop} (kk : kO) (st : (Nat → Int32) × Int32) (h : Prog nc YS NS g0 g1 V st) :
    ∃ st', Prog nc YS NS g0 g1 (V ∧ ∀ i b, i < nc → V2 nc g1 i b) st' ∧ L_M_closeOnce_117 kk jF s (va_up a 6 st.1) st.2 0 = kk s (va_up a 6 st'.1) st'.2 := by
  refine lp_out0 (fun f (st : (Nat → Int32) × Int32) z => L_M_closeOnce_117 kk f s (va_up a 6 st.1) st.2 z) (fun k st => Prog nc YS NS g0 g1 (V ∧ ∀ i b, i < k → V2 nc g1 i b) st) nc (fun o => ∃ st', Prog nc YS NS g0 g1 (V ∧ ∀ i b, i < nc → V2 nc g1 i b) st' ∧ o = kk s (va_up a 6 st'.1) st'.2) (by omega) ?_ ?_ st (h.mono (fun v => ⟨v, fun i b hb => absurd hb (by omega)⟩))
  · intro f i st hi hI
    left
    obtain ⟨st', hP, hE⟩ := M_close127 (a := a) hs hn hYN hi (fun s31 a32 x33 => L_M_closeOnce_117 kk f s31 a32 x33 (nI i + 1)) st hI
    refine ⟨st', hP.mono (fun v => ⟨v.1.1, fun i' b hi' => ?_⟩), ?_⟩
    · by_cases e : i' = i
      · subst e; exact v.2 b
      · exact v.1.2 i' b (by omega)
    · rw [L_M_closeOnce_117, hs, if_neg (j_lt hi (by omega)), hE, nI_1]
  · intro f st hI
    refine ⟨st, hI, ?_⟩
    rw [L_M_closeOnce_117, hs, if_pos (j_le (Nat.le_refl _) (by omega))]
def Vcl (nc : Nat) (g1 : Nat → Int32) : Prop := (∀ i b c, i < nc → hr nc b → blw g1 i b = true → hr nc c → blw g1 b c = true → g1 (21 * i + c) = 1) ∧ ∀ i b, i < nc → V2 nc g1 i b
theorem M_closeOnce {s : jS} {a : jB} {nc : Nat} (hs : s 1 = nI nc) (hn : nc ≤ 20) {YS NS : Nat → Nat → Prop} (hYN : YN nc YS NS) {g0 g1 : Nat → Int32} (hO : OKc nc YS NS g0 g1) :
    ∃ st', Prog nc YS NS g0 g1 (Vcl nc g1) st' ∧ m_M_closeOnce s (va_up a 6 g1) = some (st'.2, s, va_up a 6 st'.1) := by
  unfold m_M_closeOnce
  obtain ⟨st1, h1, e1⟩ := M_close4 (a := a) hs hn hYN (fun s18 a19 x20 => L_M_closeOnce_117 (fun s36 a37 x38 => jg (jz x38) (some (x38, s36, a37))) jF s18 a19 x20 0) (g1, 0) (g0 := g0) (g1 := g1) (V := True) ⟨hO, Or.inl ⟨rfl, rfl, trivial⟩⟩
  obtain ⟨st2, h2, e2⟩ := M_close117 (a := a) hs hn hYN (fun s36 a37 x38 => jg (jz x38) (some (x38, s36, a37))) st1 h1
  refine ⟨st2, h2.mono (fun v => ⟨v.1.2, v.2⟩), e1.trans ?_⟩
  rw [e2, Prog_jz h2]
  rfl
theorem M_closeLoop {s : jS} {a : jB} {nc : Nat} (hs : s 1 = nI nc) (hn : nc ≤ 20) {YS NS : Nat → Nat → Prop} (hYN : YN nc YS NS) {g0 : Nat → Int32} :
    ∀ (d f : Nat) (g : Nat → Int32), 420 - cnt g < d → d + 1 < f → OKc nc YS NS g0 g → ∃ g', OKc nc YS NS g0 g' ∧ Vcl nc g' ∧ L_M_close_6 (fun s8 a9 => some (s8, a9)) f s (va_up a 6 g) 1 = some (s, va_up a 6 g') := by
  intro d
  induction d with
  | zero => intro f g h; exact absurd h (by omega)
  | succ d ih =>
    intro f g hd hf hO
    obtain ⟨f, rfl⟩ : ∃ g, f = g + 1 := ⟨f - 1, by omega⟩
    obtain ⟨st', hP, hE⟩ := M_closeOnce (a := a) hs hn hYN hO
    rw [L_M_close_6, if_neg (by decide), hE, jb3_s]
    rcases hP.2 with e | e
    · rw [e.1]
      obtain ⟨f, rfl⟩ : ∃ g, f = g + 1 := ⟨f - 1, by omega⟩
      refine ⟨g, hO, e.2.2, ?_⟩
      rw [L_M_close_6, if_pos rfl, e.2.1]
    · rw [e.1]
      have := cnt_le st'.1
      exact ih f st'.1 (by omega) (by omega) hP.1
/-- what is told at the start of closing -/
def tB (nc : Nat) (x : jAx) (g : Nat → Int32) (i j : Nat) : Prop := i < nc ∧ hr nc j ∧ (g (21 * i + j) = 1 ∨ selfB x i j = true)
def tN (nc : Nat) (g : Nat → Int32) (i j : Nat) : Prop := i < nc ∧ hr nc j ∧ g (21 * i + j) = 0
/-- a table's numbers as they may be -/
def Tab (nc : Nat) (g : Nat → Int32) : Prop := ∀ i j, i < 20 → j < 21 → (g (21 * i + j) = 3 ∨ (i < nc ∧ hr nc j ∧ (g (21 * i + j) = 0 ∨ g (21 * i + j) = 1 ∨ g (21 * i + j) = 2)))
/-- closing, as a whole: YES is the least, NO is spread -/
theorem M_close {s : jS} {a : jB} {nc : Nat} {x : jAx} (hA : MA s a nc x) (hT : Tab nc (a 6)) (hcons : ∀ i j, tN nc (a 6) i j → ¬ Yst nc (tB nc x (a 6)) i j) :
    ∃ g, m_M_close s a = some (s, va_up a 6 g) ∧ Tab nc g ∧ ∀ i j, i < nc → hr nc j →
      (g (21 * i + j) = 1 ↔ Yst nc (tB nc x (a 6)) i j) ∧ (g (21 * i + j) = 0 ↔ Nst (Yst nc (tB nc x (a 6))) (tN nc (a 6)) i j) ∧ (g (21 * i + j) = 2 ↔ a 6 (21 * i + j) = 2 ∧ ¬ Yst nc (tB nc x (a 6)) i j ∧ ¬ Nst (Yst nc (tB nc x (a 6))) (tN nc (a 6)) i j) := by
  obtain ⟨h1, h2, h3, h4, hk⟩ := id hA
  obtain ⟨g0, ht, e0⟩ := M_tellItself hA
  have hhr : ∀ i j, Yst nc (tB nc x (a 6)) i j → hr nc i ∧ hr nc j := fun i j h => Yst_hr (fun i j q => ⟨Or.inl q.1, q.2.1⟩) h
  have hpre := Yst_pre nc (tB nc x (a 6))
  have hYN : YN nc (Yst nc (tB nc x (a 6))) (Nst (Yst nc (tB nc x (a 6))) (tN nc (a 6))) := by
    refine ⟨hpre, hhr, ?_, ?_⟩
    · rintro p q c d ⟨a', b', n1, n2, n3⟩ h5 h6
      exact ⟨a', b', n1, hpre.2.2 _ _ _ n2 h5, hpre.2.2 _ _ _ h6 n3⟩
    · rintro i j ⟨a', b', n1, n2, n3⟩ hy
      exact hcons a' b' n1 (hpre.2.2 _ _ _ n2 (hpre.2.2 _ _ _ hy n3))
  -- the table that closing begins with
  have g0at : ∀ i j, i < 20 → j < 21 → (g0 (21 * i + j) = 1 ∧ tB nc x (a 6) i j) ∨ (g0 (21 * i + j) = a 6 (21 * i + j) ∧ ¬ tB nc x (a 6) i j) := by
    intro i j hi hj
    obtain ⟨p1, p2⟩ := ht i j hi hj
    by_cases q : i < nc ∧ hr nc j ∧ selfB x i j = true
    · exact Or.inl ⟨p1 q, q.1, q.2.1, Or.inr q.2.2⟩
    · rw [p2 q]
      by_cases r : tB nc x (a 6) i j
      · rcases r.2.2 with z | z
        · exact Or.inl ⟨z, r⟩
        · exact absurd ⟨r.1, r.2.1, z⟩ q
      · exact Or.inr ⟨rfl, r⟩
  have hO : OKc nc (Yst nc (tB nc x (a 6))) (Nst (Yst nc (tB nc x (a 6))) (tN nc (a 6))) g0 g0 := by
    intro i j hi hj
    refine ⟨?_, id, id⟩
    rcases g0at i j hi hj with q | q
    · exact Or.inl ⟨q.1, Yst_in q.2, q.2.1, q.2.2.1⟩
    · rcases hT i j hi hj with z | ⟨z1, z2, z⟩
      · exact Or.inr (Or.inr ⟨rfl, Or.inr (by rw [q.1]; exact z)⟩)
      · rcases z with z | z | z
        · exact Or.inr (Or.inl ⟨by rw [q.1]; exact z, ⟨i, j, ⟨z1, z2, z⟩, hpre.1 i (Or.inl z1), hpre.1 j z2⟩, z1, z2⟩)
        · exact absurd ⟨z1, z2, Or.inl z⟩ q.2
        · exact Or.inr (Or.inr ⟨rfl, Or.inl (by rw [q.1]; exact z)⟩)
  obtain ⟨g, hOg, hV, hE⟩ := M_closeLoop (a := a) h1 h2 hYN 421 jF g0 (by omega) (by decide) hO
  refine ⟨g, ?_, ?_, ?_⟩
  · unfold m_M_close
    rw [e0, jb2_s, hE]
  · intro i j hi hj
    rcases (hOg i j hi hj).1 with q | q | q
    · exact Or.inr ⟨q.2.2.1, q.2.2.2, Or.inr (Or.inl q.1)⟩
    · exact Or.inr ⟨q.2.2.1, q.2.2.2, Or.inl q.1⟩
    · rcases q.2 with z | z
      · rcases g0at i j hi hj with w | w
        · rw [w.1] at z; exact absurd z (by decide)
        · rcases hT i j hi hj with y | ⟨y1, y2, y⟩
          · rw [w.1, y] at z; exact absurd z (by decide)
          · exact Or.inr ⟨y1, y2, Or.inr (Or.inr (q.1.trans z))⟩
      · exact Or.inl (q.1.trans z)
  · -- YES is all of it
    have hYg : ∀ i j, Yst nc (tB nc x (a 6)) i j → (i = 20 ∧ hr nc j) ∨ (i < nc ∧ hr nc j ∧ g (21 * i + j) = 1) := by
      intro i j h
      refine Yst_le (Z := fun i j => (i = 20 ∧ hr nc j) ∨ (i < nc ∧ hr nc j ∧ g (21 * i + j) = 1)) ⟨?_, ?_, ?_⟩ ?_ h
      · intro i hi
        rcases hi with hi | hi
        · refine Or.inr ⟨hi, Or.inl hi, (hOg i i (by omega) (by omega)).2.1 ?_⟩
          exact (ht i i (by omega) (by omega)).1 ⟨hi, Or.inl hi, by simp [selfB]⟩
        · exact Or.inl ⟨hi, Or.inr hi⟩
      · intro j hj; exact Or.inl ⟨rfl, hj⟩
      · rintro i j k (q | q) (r | r)
        · exact Or.inl ⟨q.1, r.2⟩
        · exact Or.inl ⟨q.1, r.2.1⟩
        · refine Or.inr ⟨q.1, r.2, hV.1 i j k q.1 q.2.1 ?_ r.2 ?_⟩
          · simp [blw, q.2.2]
          · simp [blw, r.1]
        · refine Or.inr ⟨q.1, r.2.1, hV.1 i j k q.1 q.2.1 ?_ r.2.1 ?_⟩
          · simp [blw, q.2.2]
          · simp [blw, r.2.2]
      · intro i j q
        have hj := hr_lt h2 q.2.1
        refine Or.inr ⟨q.1, q.2.1, (hOg i j (by have := q.1; omega) hj).2.1 ?_⟩
        rcases g0at i j (by have := q.1; omega) hj with w | w
        · exact w.1
        · exact absurd q w.2
    intro i j hi hj
    have hi20 : i < 20 := by omega
    have hj21 := hr_lt h2 hj
    have c1 : g (21 * i + j) = 1 ↔ Yst nc (tB nc x (a 6)) i j := by
      refine ⟨fun q => OKc_Y hOg hi20 hj21 q, fun q => ?_⟩
      rcases hYg i j q with z | z
      · omega
      · exact z.2.2
    have c0 : g (21 * i + j) = 0 ↔ Nst (Yst nc (tB nc x (a 6))) (tN nc (a 6)) i j := by
      refine ⟨fun q => OKc_N hOg hi20 hj21 q, fun q => ?_⟩
      obtain ⟨p, r, n1, n2, n3⟩ := id q
      have hp20 : p < 20 := by have := n1.1; omega
      have hr21 := hr_lt h2 n1.2.1
      have gp : g (21 * p + r) = 0 := by
        refine (hOg p r hp20 hr21).2.2 ?_
        rcases g0at p r hp20 hr21 with w | w
        · exact absurd (Yst_in w.2) (hcons p r n1)
        · rw [w.1]; exact n1.2.2
      have bpi : blw g p i = true := by
        rcases hYg p i n2 with z | z
        · omega
        · simp [blw, z.2.2]
      have bjr : blw g j r = true := by
        rcases hYg j r n3 with z | z
        · simp [blw, z.1]
        · simp [blw, z.2.2]
      have := hV.2 p r n1.1 n1.2.1 gp i j hi bpi hj bjr
      simp only [kn, Bool.or_eq_true, decide_eq_true_eq] at this
      rcases this with z | z
      · exact z
      · exact absurd (OKc_Y hOg hi20 hj21 z) (hYN.2.2.2 i j q)
    refine ⟨c1, c0, ?_⟩
    rw [← c1, ← c0]
    constructor
    · intro z
      refine ⟨?_, by rw [z]; decide, by rw [z]; decide⟩
      rcases (hOg i j hi20 hj21).1 with q | q | q
      · rw [q.1] at z; exact absurd z (by decide)
      · rw [q.1] at z; exact absurd z (by decide)
      · rcases g0at i j hi20 hj21 with w | w
        · rw [← q.1, z] at w; exact absurd w.1 (by decide)
        · rw [← w.1, ← q.1]; exact z
    · rintro ⟨z, z1, z0⟩
      rcases (hOg i j hi20 hj21).1 with q | q | q
      · exact absurd q.1 z1
      · exact absurd q.1 z0
      · rcases g0at i j hi20 hj21 with w | w
        · exact absurd (c1.mpr (Yst_in w.2)) z1
        · rw [q.1, w.1]; exact z

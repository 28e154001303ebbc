/-! the reference: closing -/
def kn (g : Nat → Int32) (p : Nat) : Bool := decide (g p = 0) || decide (g p = 1)
def cnt (g : Nat → Int32) : Nat := cb (kn g) 420
theorem cb_upd {g : Nat → Int32} {p : Nat} {v : Int32} (hp : kn g p = false) (hv : v = 0 ∨ v = 1) : ∀ n, cb (kn (upd g p v)) n = cb (kn g) n + (if p < n then 1 else 0) := by
  intro n
  induction n with
  | zero => simp [cb]
  | succ n ih =>
    rw [cb, cb, ih]
    by_cases e : p = n
    · subst e
      have h1 : kn (upd g p v) p = true := by unfold kn upd; simp; exact hv
      rw [h1, hp]
      simp
    · have h1 : kn (upd g p v) n = kn g n := by
        unfold kn upd
        rw [if_neg (fun q => e q.symm)]
      rw [h1]
      by_cases q : p < n
      · rw [if_pos q, if_pos (show p < n + 1 by omega)]; omega
      · rw [if_neg q, if_neg (show ¬ p < n + 1 by omega)]; omega
theorem cnt_upd {g : Nat → Int32} {p : Nat} {v : Int32} (h420 : p < 420) (hp : kn g p = false) (hv : v = 0 ∨ v = 1) : cnt (upd g p v) = cnt g + 1 := by
  unfold cnt; rw [cb_upd hp hv, if_pos h420]
theorem cnt_le (g : Nat → Int32) : cnt g ≤ 420 := cb_le _ _
/-- the numbers of a table on the way from g0 to the closed one -/
def OKc (nc : Nat) (YS NS : Nat → Nat → Prop) (g0 g : Nat → Int32) : Prop := ∀ i j, i < 20 → j < 21 →
  ((g (21 * i + j) = 1 ∧ YS i j ∧ i < nc ∧ hr nc j) ∨ (g (21 * i + j) = 0 ∧ NS i j ∧ i < nc ∧ hr nc j) ∨ (g (21 * i + j) = g0 (21 * i + j) ∧ (g0 (21 * i + j) = 2 ∨ g0 (21 * i + j) = 3))) ∧ (g0 (21 * i + j) = 1 → g (21 * i + j) = 1) ∧ (g0 (21 * i + j) = 0 → g (21 * i + j) = 0)
/-- what YS and NS must be -/
def YN (nc : Nat) (YS NS : Nat → Nat → Prop) : Prop := Pre nc YS ∧ (∀ i j, YS i j → hr nc i ∧ hr nc j) ∧ (∀ a b c d, NS a b → YS a c → YS d b → NS c d) ∧ (∀ i j, NS i j → ¬ YS i j)
def Prog (nc : Nat) (YS NS : Nat → Nat → Prop) (g0 g1 : Nat → Int32) (V : Prop) (st : (Nat → Int32) × Int32) : Prop := OKc nc YS NS g0 st.1 ∧ ((st.2 = 0 ∧ st.1 = g1 ∧ V) ∨ (st.2 = 1 ∧ cnt g1 < cnt st.1))
theorem Prog.mono {nc : Nat} {YS NS : Nat → Nat → Prop} {g0 g1 : Nat → Int32} {V V' : Prop} {st : (Nat → Int32) × Int32} (h : Prog nc YS NS g0 g1 V st) (hv : V → V') : Prog nc YS NS g0 g1 V' st := ⟨h.1, h.2.imp (fun q => ⟨q.1, q.2.1, hv q.2.2⟩) id⟩
theorem Prog.mono2 {nc : Nat} {YS NS : Nat → Nat → Prop} {g0 g1 : Nat → Int32} {V V' : Prop} {st : (Nat → Int32) × Int32} (h : Prog nc YS NS g0 g1 V st) (hv : st.1 = g1 → V → V') : Prog nc YS NS g0 g1 V' st := ⟨h.1, h.2.imp (fun q => ⟨q.1, q.2.1, hv q.2.1 q.2.2⟩) id⟩
theorem OKc_Y {nc : Nat} {YS NS : Nat → Nat → Prop} {g0 g : Nat → Int32} (h : OKc nc YS NS g0 g) {i j : Nat} (hi : i < 20) (hj : j < 21) (h1 : g (21 * i + j) = 1) : YS i j := by
  rcases (h i j hi hj).1 with q | q | q
  · exact q.2.1
  · rw [q.1] at h1; exact absurd h1 (by decide)
  · rw [← q.1, h1] at q; rcases q.2 with z | z <;> exact absurd z (by decide)
theorem OKc_N {nc : Nat} {YS NS : Nat → Nat → Prop} {g0 g : Nat → Int32} (h : OKc nc YS NS g0 g) {i j : Nat} (hi : i < 20) (hj : j < 21) (h1 : g (21 * i + j) = 0) : NS i j := by
  rcases (h i j hi hj).1 with q | q | q
  · rw [q.1] at h1; exact absurd h1 (by decide)
  · exact q.2.1
  · rw [← q.1, h1] at q; rcases q.2 with z | z <;> exact absurd z (by decide)
theorem OKc_blw {nc : Nat} {YS NS : Nat → Nat → Prop} {g0 g : Nat → Int32} (hYN : YN nc YS NS) (h : OKc nc YS NS g0 g) {i j : Nat} (hi : i < 21) (hj : j < 21) (hh : hr nc j) (h1 : blw g i j = true) : YS i j := by
  simp only [blw, Bool.or_eq_true, decide_eq_true_eq] at h1
  by_cases e : i = 20
  · subst e; exact hYN.1.2.1 j hh
  · exact OKc_Y h (by omega) hj (h1.resolve_left e)
theorem OKc_setY {nc : Nat} {YS NS : Nat → Nat → Prop} {g0 g : Nat → Int32} (hn : nc ≤ 20) (hYN : YN nc YS NS) (h : OKc nc YS NS g0 g) {i j : Nat} (hi : i < nc) (hj : hr nc j) (hY : YS i j) (h1 : g (21 * i + j) ≠ 1) : OKc nc YS NS g0 (upd g (21 * i + j) 1) ∧ kn g (21 * i + j) = false := by
  have hj21 := hr_lt hn hj
  have h0 : g (21 * i + j) ≠ 0 := fun q => hYN.2.2.2 i j (OKc_N h (by omega) hj21 q) hY
  refine ⟨fun i' j' hi' hj' => ?_, by simp [kn, h0, h1]⟩
  rw [set2_at g 1 hj21 hj']
  by_cases e : i' = i ∧ j' = j
  · rw [if_pos e]
    obtain ⟨rfl, rfl⟩ := e
    refine ⟨Or.inl ⟨rfl, hY, hi, hj⟩, fun _ => rfl, fun q => ?_⟩
    exact absurd ((h i' j' hi' hj').2.2 q) h0
  · rw [if_neg e]; exact h i' j' hi' hj'
theorem OKc_setN {nc : Nat} {YS NS : Nat → Nat → Prop} {g0 g : Nat → Int32} (hn : nc ≤ 20) (h : OKc nc YS NS g0 g) {i j : Nat} (hi : i < nc) (hj : hr nc j) (hN : NS i j) (h1 : g (21 * i + j) ≠ 1) (h0 : g (21 * i + j) ≠ 0) : OKc nc YS NS g0 (upd g (21 * i + j) 0) ∧ kn g (21 * i + j) = false := by
  have hj21 := hr_lt hn hj
  refine ⟨fun i' j' hi' hj' => ?_, by simp [kn, h0, h1]⟩
  rw [set2_at g 0 hj21 hj']
  by_cases e : i' = i ∧ j' = j
  · rw [if_pos e]
    obtain ⟨rfl, rfl⟩ := e
    refine ⟨Or.inr (Or.inl ⟨rfl, hN, hi, hj⟩), fun q => ?_, fun _ => rfl⟩
    exact absurd ((h i' j' hi' hj').2.1 q) h1
  · rw [if_neg e]; exact h i' j' hi' hj'
abbrev kO : Type := jS → jB → Int32 → Option (Int32 × jS × jB)
/-- the innermost turn: a, b, c -/
theorem M_c40 {s : jS} {a : jB} {nc : Nat} (hs : s 1 = nI nc) (hn : nc ≤ 20) {i b c : Nat} (hi : i < 20) (hb : b < 21) (hc : c < 21) (kk : kO) (f : Nat) (g : Nat → Int32) (z : Int32) :
    L_M_closeOnce_40 (nI i) (nI b) kk (f + 1) s (va_up a 6 g) z (nI c) = L_M_closeOnce_40 (nI i) (nI b) kk f s (va_up a 6 (if hrB nc c && blw g b c && !decide (g (21 * i + c) = 1) then upd g (21 * i + c) 1 else g)) (if hrB nc c && blw g b c && !decide (g (21 * i + c) = 1) then 1 else z) (nI (c + 1)) := by
  rw [L_M_closeOnce_40, if_neg (by rw [lt20_iff (by omega)]; omega), M_isHere hs hn hc, M_below hb hc, nI_1]
  simp only [jb_s, jg_pair hi hc, cl_pair hi hc, bI_z, up_self, up_up]
  cases q1 : hrB nc c <;> cases q2 : blw g b c <;> by_cases q3 : g (21 * i + c) = 1 <;> simp [q3]
theorem M_close40 {s : jS} {a : jB} {nc : Nat} (hs : s 1 = nI nc) (hn : nc ≤ 20) {YS NS : Nat → Nat → Prop} (hYN : YN nc YS NS) {g0 g1 : Nat → Int32} {V : Prop} {i b : Nat} (hi : i < nc) (hb : hr nc b) (hib : YS i b) (kk : kO) (st : (Nat → Int32) × Int32) (h : Prog nc YS NS g0 g1 V st) :
    ∃ st', Prog nc YS NS g0 g1 (V ∧ ∀ c, hr nc c → blw g1 b c = true → g1 (21 * i + c) = 1) st' ∧ L_M_closeOnce_40 (nI i) (nI b) kk jF s (va_up a 6 st.1) st.2 0 = kk s (va_up a 6 st'.1) st'.2 := by
  have hb21 := hr_lt hn hb
  refine lp_out0 (fun f (st : (Nat → Int32) × Int32) z => L_M_closeOnce_40 (nI i) (nI b) kk f s (va_up a 6 st.1) st.2 z) (fun k st => Prog nc YS NS g0 g1 (V ∧ ∀ c, c < k → hr nc c → blw g1 b c = true → g1 (21 * i + c) = 1) st) 21 (fun o => ∃ st', Prog nc YS NS g0 g1 (V ∧ ∀ c, hr nc c → blw g1 b c = true → g1 (21 * i + c) = 1) st' ∧ o = kk s (va_up a 6 st'.1) st'.2) (by decide) ?_ ?_ st (h.mono (fun v => ⟨v, fun c hc => absurd hc (by omega)⟩))
  · intro f c st hc ⟨hO, hd⟩
    left
    refine ⟨(if hrB nc c && blw st.1 b c && !decide (st.1 (21 * i + c) = 1) then upd st.1 (21 * i + c) 1 else st.1, if hrB nc c && blw st.1 b c && !decide (st.1 (21 * i + c) = 1) then 1 else st.2), ?_, M_c40 hs hn (show i < 20 by omega) hb21 hc kk f st.1 st.2⟩
    by_cases q : (hrB nc c && blw st.1 b c && !decide (st.1 (21 * i + c) = 1)) = true
    · simp only [if_pos q]
      simp only [Bool.and_eq_true, Bool.not_eq_true', decide_eq_false_iff_not, hrB_iff] at q
      obtain ⟨⟨q1, q2⟩, q3⟩ := q
      have hbc := OKc_blw hYN hO hb21 hc q1 q2
      obtain ⟨hO', hk⟩ := OKc_setY hn hYN hO hi q1 (hYN.1.2.2 i b c hib hbc) q3
      refine ⟨hO', Or.inr ⟨rfl, ?_⟩⟩
      show cnt g1 < cnt (upd st.1 (21 * i + c) 1)
      rw [cnt_upd (by omega) hk (Or.inr rfl)]
      rcases hd with d | d
      · rw [d.2.1]; omega
      · have := d.2; omega
    · simp only [if_neg q]
      refine ⟨hO, hd.imp (fun d => ⟨d.1, d.2.1, d.2.2.1, fun c' hc' hh hbl => ?_⟩) id⟩
      by_cases e : c' = c
      · subst e
        rw [d.2.1] at q
        simp only [Bool.and_eq_true, Bool.not_eq_true', decide_eq_false_iff_not, hrB_iff] at q
        exact Classical.byContradiction (fun w => q ⟨⟨hh, hbl⟩, w⟩)
      · exact d.2.2.2 c' (by omega) hh hbl
  · intro f st hI
    refine ⟨st, hI.mono (fun v => ⟨v.1, fun c hh => v.2 c (hr_lt hn hh) hh⟩), ?_⟩
    show L_M_closeOnce_40 (nI i) (nI b) kk (f + 1) s (va_up a 6 st.1) st.2 (nI 21) = _
    rw [L_M_closeOnce_40, if_pos (by decide)]
/-- the loop over b -/
theorem M_close14 {s : jS} {a : jB} {nc : Nat} (hs : s 1 = nI nc) (hn : nc ≤ 20) {YS NS : Nat → Nat → Prop} (hYN : YN nc YS NS) {g0 g1 : Nat → Int32} {V : Prop} {i : Nat} (hi : i < nc) (kk : kO) (st : (Nat → Int32) × Int32) (h : Prog nc YS NS g0 g1 V st) :
    ∃ st', Prog nc YS NS g0 g1 (V ∧ ∀ b c, hr nc b → blw g1 i b = true → hr nc c → blw g1 b c = true → g1 (21 * i + c) = 1) st' ∧ L_M_closeOnce_14 (nI i) kk jF s (va_up a 6 st.1) st.2 0 = kk s (va_up a 6 st'.1) st'.2 := by
  refine lp_out0 (fun f (st : (Nat → Int32) × Int32) z => L_M_closeOnce_14 (nI i) kk f s (va_up a 6 st.1) st.2 z) (fun k st => Prog nc YS NS g0 g1 (V ∧ ∀ b c, b < k → hr nc b → blw g1 i b = true → hr nc c → blw g1 b c = true → g1 (21 * i + c) = 1) st) 21 (fun o => ∃ st', Prog nc YS NS g0 g1 (V ∧ ∀ b c, hr nc b → blw g1 i b = true → hr nc c → blw g1 b c = true → g1 (21 * i + c) = 1) st' ∧ o = kk s (va_up a 6 st'.1) st'.2) (by decide) ?_ ?_ st (h.mono (fun v => ⟨v, fun b c hb => absurd hb (by omega)⟩))
  · intro f b st hb hI
    left
    have hO := hI.1
    by_cases q : (hrB nc b && blw st.1 i b) = true
    · have q' := q
      simp only [Bool.and_eq_true, hrB_iff] at q'
      have hib := OKc_blw hYN hO (show i < 21 by omega) hb q'.1 q'.2
      obtain ⟨st', hP, hE⟩ := M_close40 (a := a) hs hn hYN hi q'.1 hib (fun s9 a10 x11 => L_M_closeOnce_14 (nI i) kk f s9 a10 x11 (nI b + 1)) st hI
      refine ⟨st', hP.mono (fun v => ⟨v.1.1, fun b' c hb' h1 h2 h3 h4 => ?_⟩), ?_⟩
      · by_cases e : b' = b
        · subst e; exact v.2 c h3 h4
        · exact v.1.2 b' c (by omega) h1 h2 h3 h4
      · rw [L_M_closeOnce_14, if_neg (by rw [lt20_iff (by omega)]; omega), M_isHere hs hn hb, M_below (show i < 21 by omega) hb]
        simp only [Bool.and_eq_true] at q
        rw [up_self]
        simp only [jb_s, bI_z, q.1, q.2]
        rw [if_neg (by decide), if_neg (by decide), hE, nI_1]
    · refine ⟨st, hI.mono2 (fun eg v => ⟨v.1, fun b' c hb' h1 h2 h3 h4 => ?_⟩), ?_⟩
      · by_cases e : b' = b
        · subst e
          rw [eg] at q
          exact absurd (by simp only [Bool.and_eq_true, hrB_iff]; exact ⟨h1, h2⟩) q
        · exact v.2 b' c (by omega) h1 h2 h3 h4
      · rw [L_M_closeOnce_14, if_neg (by rw [lt20_iff (by omega)]; omega), M_isHere hs hn hb, M_below (show i < 21 by omega) hb]
        rw [up_self]
        simp only [jb_s, bI_z, nI_1]
        simp only [Bool.and_eq_true, not_and, Bool.not_eq_true] at q
        cases q1 : hrB nc b
        · rw [if_pos rfl]
        · rw [if_neg (by decide), q q1, if_pos rfl]
  · intro f st hI
    refine ⟨st, hI.mono (fun v => ⟨v.1, fun b c hh => v.2 b c (hr_lt hn hh) hh⟩), ?_⟩
    show L_M_closeOnce_14 (nI i) kk (f + 1) s (va_up a 6 st.1) st.2 (nI 21) = _
    rw [L_M_closeOnce_14, if_pos (by decide)]
/-- the loop over a: all YES that follow -/
theorem M_close4 {s : jS} {a : jB} {nc : Nat} (hs : s 1 = nI nc) (hn : nc ≤ 20) {YS NS : Nat → Nat → Prop} (hYN : YN nc YS NS) {g0 g1 : Nat → Int32} {V : Prop} (kk : kO) (st : (Nat → Int32) × Int32) (h : Prog nc YS NS g0 g1 V st) :
    ∃ st', Prog nc YS NS g0 g1 (V ∧ ∀ i b c, i < nc → hr nc b → blw g1 i b = true → hr nc c → blw g1 b c = true → g1 (21 * i + c) = 1) st' ∧ L_M_closeOnce_4 kk jF s (va_up a 6 st.1) st.2 0 = kk s (va_up a 6 st'.1) st'.2 := by
  refine lp_out0 (fun f (st : (Nat → Int32) × Int32) z => L_M_closeOnce_4 kk f s (va_up a 6 st.1) st.2 z) (fun k st => Prog nc YS NS g0 g1 (V ∧ ∀ i b c, i < k → hr nc b → blw g1 i b = true → hr nc c → blw g1 b c = true → g1 (21 * i + c) = 1) st) nc (fun o => ∃ st', Prog nc YS NS g0 g1 (V ∧ ∀ i b c, i < nc → hr nc b → blw g1 i b = true → hr nc c → blw g1 b c = true → g1 (21 * i + c) = 1) st' ∧ o = kk s (va_up a 6 st'.1) st'.2) (by omega) ?_ ?_ st (h.mono (fun v => ⟨v, fun i b c hb => absurd hb (by omega)⟩))
  · intro f i st hi hI
    left
    obtain ⟨st', hP, hE⟩ := M_close14 (a := a) hs hn hYN hi (fun s13 a14 x15 => L_M_closeOnce_4 kk f s13 a14 x15 (nI i + 1)) st hI
    refine ⟨st', hP.mono (fun v => ⟨v.1.1, fun i' b c hi' h1 h2 h3 h4 => ?_⟩), ?_⟩
    · by_cases e : i' = i
      · subst e; exact v.2 b c h1 h2 h3 h4
      · exact v.1.2 i' b c (by omega) h1 h2 h3 h4
    · rw [L_M_closeOnce_4, hs, if_neg (j_lt hi (by omega)), hE, nI_1]
  · intro f st hI
    refine ⟨st, hI, ?_⟩
    rw [L_M_closeOnce_4, hs, if_pos (j_le (Nat.le_refl _) (by omega))]
/-- spreadNo: one turn -/
theorem M_s27 {s : jS} {a : jB} {nc : Nat} (hs : s 1 = nI nc) (hn : nc ≤ 20) {b c d : Nat} (hb : b < 21) (hc : c < 20) (hd : d < 21) (kk : kO) (f : Nat) (g : Nat → Int32) (z : Int32) :
    L_M_spreadNo_27 (nI b) (nI c) kk (f + 1) s (va_up a 6 g) z (nI d) = L_M_spreadNo_27 (nI b) (nI c) kk f s (va_up a 6 (if hrB nc d && blw g d b && !kn g (21 * c + d) then upd g (21 * c + d) 0 else g)) (if hrB nc d && blw g d b && !kn g (21 * c + d) then 1 else z) (nI (d + 1)) := by
  rw [L_M_spreadNo_27, if_neg (by rw [lt20_iff (by omega)]; omega), M_isHere hs hn hd, M_below hd hb, nI_1]
  simp only [jb_s, jg_pair hc hd, cl_pair hc hd, bI_z, up_self, up_up]
  cases q1 : hrB nc d <;> cases q2 : blw g d b <;> by_cases q3 : g (21 * c + d) = 1 <;> by_cases q4 : g (21 * c + d) = 0 <;> simp [q3, q4, kn]
theorem M_spread27 {s : jS} {a : jB} {nc : Nat} (hs : s 1 = nI nc) (hn : nc ≤ 20) {YS NS : Nat → Nat → Prop} (hYN : YN nc YS NS) {g0 g1 : Nat → Int32} {V : Prop} {i b c : Nat} (hb : hr nc b) (hc : c < nc) (hN : NS i b) (hic : YS i c) (kk : kO) (st : (Nat → Int32) × Int32) (h : Prog nc YS NS g0 g1 V st) :
    ∃ st', Prog nc YS NS g0 g1 (V ∧ ∀ d, hr nc d → blw g1 d b = true → kn g1 (21 * c + d) = true) st' ∧ L_M_spreadNo_27 (nI b) (nI c) kk jF s (va_up a 6 st.1) st.2 0 = kk s (va_up a 6 st'.1) st'.2 := by
  have hb21 := hr_lt hn hb
  refine lp_out0 (fun f (st : (Nat → Int32) × Int32) z => L_M_spreadNo_27 (nI b) (nI c) kk f s (va_up a 6 st.1) st.2 z) (fun k st => Prog nc YS NS g0 g1 (V ∧ ∀ d, d < k → hr nc d → blw g1 d b = true → kn g1 (21 * c + d) = true) st) 21 (fun o => ∃ st', Prog nc YS NS g0 g1 (V ∧ ∀ d, hr nc d → blw g1 d b = true → kn g1 (21 * c + d) = true) st' ∧ o = kk s (va_up a 6 st'.1) st'.2) (by decide) ?_ ?_ st (h.mono (fun v => ⟨v, fun c hc => absurd hc (by omega)⟩))
  · intro f d st hd hI
    left
    refine ⟨(if hrB nc d && blw st.1 d b && !kn st.1 (21 * c + d) then upd st.1 (21 * c + d) 0 else st.1, if hrB nc d && blw st.1 d b && !kn st.1 (21 * c + d) then 1 else st.2), ?_, M_s27 hs hn hb21 (show c < 20 by omega) hd kk f st.1 st.2⟩
    obtain ⟨hO, hdj⟩ := id hI
    by_cases q : (hrB nc d && blw st.1 d b && !kn st.1 (21 * c + d)) = true
    · simp only [if_pos q]
      simp only [Bool.and_eq_true, Bool.not_eq_true', hrB_iff] at q
      obtain ⟨⟨q1, q2⟩, q3⟩ := q
      have hdb := OKc_blw hYN hO hd hb21 hb q2
      have q3' := q3
      simp only [kn, Bool.or_eq_false_iff, decide_eq_false_iff_not] at q3'
      obtain ⟨hO', hk⟩ := OKc_setN hn hO hc q1 (hYN.2.2.1 i b c d hN hic hdb) q3'.2 q3'.1
      refine ⟨hO', Or.inr ⟨rfl, ?_⟩⟩
      show cnt g1 < cnt (upd st.1 (21 * c + d) 0)
      rw [cnt_upd (by omega) hk (Or.inl rfl)]
      rcases hdj with e | e
      · rw [e.2.1]; omega
      · have := e.2; omega
    · simp only [if_neg q]
      refine hI.mono2 (fun eg v => ⟨v.1, fun d' hd' hh hbl => ?_⟩)
      by_cases e : d' = d
      · subst e
        rw [eg] at q
        simp only [Bool.and_eq_true, Bool.not_eq_true', hrB_iff] at q
        cases w : kn g1 (21 * c + d') with
        | true => rfl
        | false => exact absurd ⟨⟨hh, hbl⟩, w⟩ q
      · exact v.2 d' (by omega) hh hbl
  · intro f st hI
    refine ⟨st, hI.mono (fun v => ⟨v.1, fun d hh => v.2 d (hr_lt hn hh) hh⟩), ?_⟩
    show L_M_spreadNo_27 (nI b) (nI c) kk (f + 1) s (va_up a 6 st.1) st.2 (nI 21) = _
    rw [L_M_spreadNo_27, if_pos (by decide)]
theorem Prog_jz {nc : Nat} {YS NS : Nat → Nat → Prop} {g0 g1 : Nat → Int32} {V : Prop} {st : (Nat → Int32) × Int32} (h : Prog nc YS NS g0 g1 V st) : jz st.2 = true := by
  rcases h.2 with q | q <;> rw [q.1] <;> decide
theorem M_spreadNo {s : jS} {a : jB} {nc : Nat} (hs : s 1 = nI nc) (hn : nc ≤ 20) {YS NS : Nat → Nat → Prop} (hYN : YN nc YS NS) {g0 g1 : Nat → Int32} {i b : Nat} (hi : i < nc) (hb : hr nc b) (hO : OKc nc YS NS g0 g1) (h0 : g1 (21 * i + b) = 0) :
    ∃ st', Prog nc YS NS g0 g1 (∀ c d, c < nc → blw g1 i c = true → hr nc d → blw g1 d b = true → kn g1 (21 * c + d) = true) st' ∧ m_M_spreadNo s (va_up a 6 g1) (nI i) (nI b) = some (st'.2, s, va_up a 6 st'.1) := by
  have hb21 := hr_lt hn hb
  have hN := OKc_N hO (show i < 20 by omega) hb21 h0
  unfold m_M_spreadNo
  refine lp_out0 (fun f (st : (Nat → Int32) × Int32) z => L_M_spreadNo_5 (nI i) (nI b) (fun s13 a14 x15 => jg (jz x15) (some (x15, s13, a14))) f s (va_up a 6 st.1) st.2 z) (fun k st => Prog nc YS NS g0 g1 (∀ c d, c < k → blw g1 i c = true → hr nc d → blw g1 d b = true → kn g1 (21 * c + d) = true) st) nc (fun o => ∃ st', Prog nc YS NS g0 g1 (∀ c d, c < nc → blw g1 i c = true → hr nc d → blw g1 d b = true → kn g1 (21 * c + d) = true) st' ∧ o = some (st'.2, s, va_up a 6 st'.1)) (by omega) ?_ ?_ (g1, 0) ⟨hO, Or.inl ⟨rfl, rfl, fun c d hc => absurd hc (by omega)⟩⟩
  · intro f c st hc hI
    left
    by_cases q : blw st.1 i c = true
    · have hic := OKc_blw hYN hI.1 (show i < 21 by omega) (show c < 21 by omega) (Or.inl hc) q
      obtain ⟨st', hP, hE⟩ := M_spread27 (a := a) hs hn hYN hb hc hN hic (fun s8 a9 x10 => L_M_spreadNo_5 (nI i) (nI b) (fun s13 a14 x15 => jg (jz x15) (some (x15, s13, a14))) f s8 a9 x10 (nI c + 1)) st hI
      refine ⟨st', hP.mono (fun v c' d hc' h1 h2 h3 => ?_), ?_⟩
      · by_cases e : c' = c
        · subst e; exact v.2 d h2 h3
        · exact v.1 c' d (by omega) h1 h2 h3
      · rw [L_M_spreadNo_5, hs, if_neg (j_lt hc (by omega)), M_below (show i < 21 by omega) (show c < 21 by omega), up_self, q, jb_s, if_neg (by decide), hE, nI_1]
    · refine ⟨st, hI.mono2 (fun eg v c' d hc' h1 h2 h3 => ?_), ?_⟩
      · by_cases e : c' = c
        · subst e; rw [eg] at q; exact absurd h1 q
        · exact v c' d (by omega) h1 h2 h3
      · rw [L_M_spreadNo_5, hs, if_neg (j_lt hc (by omega)), M_below (show i < 21 by omega) (show c < 21 by omega), up_self, Bool.eq_false_iff.mpr q, jb_s, if_pos (by decide), nI_1]
  · intro f st hI
    refine ⟨st, hI, ?_⟩
    rw [L_M_spreadNo_5, hs, if_pos (j_le (Nat.le_refl _) (by omega)), Prog_jz hI]
    rfl

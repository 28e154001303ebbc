/-! fuel, known, put, count -/
theorem RelD_frame {nc nt fu : Nat} {x : jAx} {mem : Nat → Nat → Bool} {pl : Nat → Bool} {s : jS} {a : jB} {s' : jS} {a' : jB} (hR : RelD nc nt fu x mem pl s a s' a') {t : jS} {b : jB} {t' : jS} {b' : jB}
    (h1 : ∀ i, i ≠ 7 → i ≠ 8 → i ≠ 11 → t i = s i) (h2 : ∀ p, p ≠ 5 → b p = a p) (h3 : ∀ i, i ≠ 7 → i ≠ 8 → t' i = s' i) (h4 : ∀ p, p ≤ 8 → p ≠ 7 → b' p = a' p) : RelD nc nt fu x mem pl t b t' b' := by
  obtain ⟨⟨c1, c2, c3, c4⟩, ⟨d0, d1, d2, d3, d4, d5, d6, d7⟩, ⟨e1, e2, e3⟩, ⟨f1, f2, f3⟩, ⟨g1, g2⟩, g3⟩ := hR
  have z0 := h1 0 (by decide) (by decide) (by decide)
  have z1 := h1 1 (by decide) (by decide) (by decide)
  have z2 := h1 2 (by decide) (by decide) (by decide)
  have z3 := h1 3 (by decide) (by decide) (by decide)
  have z4 := h1 4 (by decide) (by decide) (by decide)
  have z5 := h1 5 (by decide) (by decide) (by decide)
  have z6 := h1 6 (by decide) (by decide) (by decide)
  have z9 := h1 9 (by decide) (by decide) (by decide)
  have z10 := h1 10 (by decide) (by decide) (by decide)
  refine ⟨⟨c1, c2, c3, c4⟩, ⟨z0.trans d0, z1.trans d1, ?_, ?_, ?_, ?_, z5.trans d6, z6.trans d7⟩, ⟨?_, ?_, ?_⟩, ⟨?_, ?_, f3⟩, ⟨?_, ?_⟩, ?_⟩
  · rw [z2, h3 5 (by decide) (by decide)]; exact d2
  · rw [z3, h3 6 (by decide) (by decide)]; exact d3
  · rw [z3]; exact d4
  · exact ⟨z4.trans d5.1, d5.2.1, fun k hk => by rw [h2 2 (by decide), h2 3 (by decide)]; exact d5.2.2 k hk⟩
  · exact MA_same e1 (h3 1 (by decide) (by decide)) (h3 3 (by decide) (by decide)) (fun p h5 h6 => h4 p (by omega) (by omega))
  · rw [h3 2 (by decide) (by decide)]; exact e2
  · rw [h3 4 (by decide) (by decide)]; exact e3
  · intro t ht; rw [h2 12 (by decide)]; exact f1 t ht
  · intro t c ht hc; rw [h4 5 (by decide) (by decide)]; exact f2 t c ht hc
  · exact KI_same (h2 7 (by decide)) (h2 8 (by decide)) (h2 9 (by decide)) (h2 10 (by decide)) g1
  · rw [h4 6 (by decide) (by decide)]; exact Enc_same (h2 7 (by decide)) (h2 9 (by decide)) (h2 10 (by decide)) g2
  · rw [z3, z9, z10, h4 8 (by decide) (by decide)]; exact g3
theorem x_forgetOpen (s : jS) (a : jB) : ∃ g, m_XK_forgetOpen s a = some (s, va_up a 10 g) ∧ ∀ c, c < 21 → g c = 0 := by
  unfold m_XK_forgetOpen
  have key := lp_out0 (fun f (g : Nat → Int32) y => L_XK_forgetOpen_2 (fun s1 a2 => some (s1, a2)) f s (va_up a 10 g) y) (fun k g => ∀ n, n < k → g n = 0) 21 (fun o => ∃ g, o = some (s, va_up a 10 g) ∧ ∀ c, c < 21 → g c = 0) (by decide) ?_ ?_ (a 10) ?_
  · rw [up_id] at key; exact key
  · intro f k g hk hI
    left
    refine ⟨upd g k 0, ?_, ?_⟩
    · intro n hn
      by_cases e : n = k
      · rw [e, upd_at]
      · rw [upd_ne _ _ e]; exact hI n (by omega)
    · show L_XK_forgetOpen_2 _ (f + 1) s (va_up a 10 g) (nI k) = _
      rw [L_XK_forgetOpen_2, if_neg (show ¬ (21 : Int32) ≤ nI k from j_lt (n := 21) hk (by decide)), jg_nI hk (by decide), nI_clamp (by omega), up_self, up_up, nI_1]
  · intro f g hI
    refine ⟨g, ?_, hI⟩
    show L_XK_forgetOpen_2 _ (f + 1) s _ (nI 21) = _
    rw [L_XK_forgetOpen_2, if_pos (show (21 : Int32) ≤ nI 21 by decide)]
  · intro n hn; omega
theorem M_forgetOpen (s : jS) (a : jB) (kk : jS → jB → Option (Int32 × jS × jB)) : ∃ g, (∀ n, n < 420 → g n = if a 6 n = 2 then 3 else a 6 n) ∧ L_M_fuel_20 kk jF s a 0 = kk s (va_up a 6 g) := by
  have key := lp_out0 (fun f (g : Nat → Int32) y => L_M_fuel_20 kk f s (va_up a 6 g) y) (fun k g => ∀ n, g n = if n < k ∧ a 6 n = 2 then 3 else a 6 n) 420 (fun o => ∃ g, (∀ n, n < 420 → g n = if a 6 n = 2 then 3 else a 6 n) ∧ o = kk s (va_up a 6 g)) (by decide) ?_ ?_ (a 6) ?_
  · rw [up_id] at key; exact key
  · intro f k g hk hI
    left
    have gk : g k = a 6 k := by rw [hI k, if_neg (by omega)]
    refine ⟨upd g k (if a 6 k = 2 then 3 else a 6 k), ?_, ?_⟩
    · intro n
      by_cases e : n = k
      · rw [e, upd_at]; simp
      · rw [upd_ne _ _ e, hI n]
        have : n < k + 1 ↔ n < k := by omega
        simp only [this]
    · show L_M_fuel_20 kk (f + 1) s (va_up a 6 g) (nI k) = _
      rw [L_M_fuel_20, if_neg (show ¬ (420 : Int32) ≤ nI k from j_lt (n := 420) hk (by decide)), jg_nI hk (by decide), jg_nI hk (by decide), nI_clamp (by omega), up_self, gk]
      by_cases e : a 6 k = 2
      · rw [if_pos e, if_pos e, jb_s, jg_nI hk (by decide), up_up, nI_1]
      · rw [if_neg e, if_neg e, jb_s, jg_nI hk (by decide), up_up, nI_1]
  · intro f g hI
    refine ⟨g, (fun n hn => by rw [hI n]; simp [hn]), ?_⟩
    show L_M_fuel_20 kk (f + 1) s _ (nI 420) = _
    rw [L_M_fuel_20, if_pos (show (420 : Int32) ≤ nI 420 by decide)]
  · intro n; simp
theorem s_fuel : sim_fuel Rel := by
  rintro s a s' a' p0 ⟨nc, nt, fu, x, mem, pl, hR⟩
  have hR' := hR
  obtain ⟨⟨c1, c2, c3, c4⟩, ⟨d0, d1, d2, d3, d4, d5, d6, d7⟩, ⟨e1, e2, e3⟩, ⟨f1, f2, f3⟩, ⟨g1, g2⟩, h1⟩ := hR'
  have bad : ∃ v s1 a1 s2 a2, some ((-2 : Int32), s, a) = some (v, s1, a1) ∧ some ((-2 : Int32), s', a') = some (v, s2, a2) ∧ Rel s1 a1 s2 a2 := ⟨-2, s, a, s', a', rfl, rfl, nc, nt, fu, x, mem, pl, hR⟩
  unfold m_X_fuel m_M_fuel
  by_cases h0 : p0 < 0
  · rw [if_pos h0, if_pos h0]; exact bad
  · rw [if_neg h0, if_neg h0]
    by_cases h2 : p0 ≤ 20
    · have hj : jin p0 21 = true := by
        cases h : jin p0 21 with
        | true => rfl
        | false =>
          rcases jin_f h with q | q
          · exact absurd ((lt0_iff p0).mpr q) h0
          · rw [Int32.le_iff_toInt_le] at h2
            have : (20 : Int32).toInt = 20 := by decide
            omega
      obtain ⟨f, hf, rfl⟩ := jin_ex (by decide) hj
      rw [if_pos h2, if_pos h2, d0, open_cnt c1 g1 g2, jb_s, M_openPairs, jb_s]
      have hfill : m_XR_fillUp s a (nI f) = some (upd s 6 (nI f), a) := by
        unfold m_XR_fillUp
        have : ∀ f, f < 21 → (if (0 : Int32) < (if (20 : Int32) < nI f then (20 : Int32) else nI f) then (if (20 : Int32) < nI f then (20 : Int32) else nI f) else (0 : Int32)) = nI f := by decide +kernel
        rw [this f hf]
      obtain ⟨g10, o1, o2⟩ := x_forgetOpen (upd s 6 (nI f)) a
      obtain ⟨g6, o3, o4⟩ := M_forgetOpen s' a' (fun s4 a5 => some (nI (cb (fun n => decide (a' 6 n = 2)) 420), upd (upd s4 4 (nI f)) 6 0, a5))
      rw [hfill, jb2_s, o1, jb2_s, o4]
      have noO : ∀ i j, ¬ Ox (va_up a 10 g10) i j := by
        rintro i j ⟨hi, q⟩
        rw [up_self, o2 i hi, b_0] at q
        cases q
      obtain ⟨hs, hp, hself, hNc, hOd, hYD, hND, hOi⟩ := id g1
      have y : ∀ i j, Yx (va_up a 10 g10) i j ↔ Yx a i j := fun i j => Yx_up (by decide) i j
      have n : ∀ i j, Nx (va_up a 10 g10) i j ↔ Nx a i j := fun i j => Nx_up (by decide) i j
      refine ⟨_, _, _, _, _, rfl, rfl, nc, nt, f, x, mem, pl, ⟨c1, c2, by omega, c4⟩, ⟨d0, d1, d2, rfl, Or.inl rfl, ?_, d6, rfl⟩, ⟨?_, e2, rfl⟩, ⟨?_, ?_, f3⟩, ⟨?_, ?_⟩, fun q => absurd q (by show ¬ (0 : Int32) = 1; decide)⟩
      · exact ⟨d5.1, d5.2.1, fun k hk => by rw [up_ne _ _ (by decide), up_ne _ _ (by decide)]; exact d5.2.2 k hk⟩
      · exact MA_same e1 rfl rfl (fun p _ _ => by rw [up_ne _ _ (by omega)])
      · intro t ht; rw [up_ne _ _ (by decide)]; exact f1 t ht
      · intro t c ht hc; rw [up_ne _ _ (by decide)]; exact f2 t c ht hc
      · refine ⟨⟨?_, ?_, fun i j q => hs.2.2.1 i j ((y i j).mp q), fun i j q => hs.2.2.2.1 i j ((n i j).mp q), fun i j q => absurd q (noO i j)⟩, ?_, ?_, ?_, fun i j q => absurd q (noO i j), fun i j q => hYD i j ((y i j).mp q), fun i j q => hND i j ((n i j).mp q), fun i j q => absurd q (noO i j)⟩
        · intro i j hi hj; rw [up_ne _ _ (by decide), up_ne _ _ (by decide)]; exact hs.1 i j hi hj
        · intro j i hj q; rw [up_ne _ _ (by decide)] at q; exact hs.2.1 j i hj q
        · exact ⟨fun i h => (y i i).mpr (hp.1 i h), fun j h => (y 20 j).mpr (hp.2.1 j h), fun i j k h1 h2 => (y i k).mpr (hp.2.2 i j k ((y i j).mp h1) ((y j k).mp h2))⟩
        · intro i j hi hj q; exact (y i j).mpr (hself i j hi hj q)
        · intro p q c d h1 h2 h3; exact (n c d).mpr (hNc p q c d ((n _ _).mp h1) ((y _ _).mp h2) ((y _ _).mp h3))
      · rw [up_self]
        refine ⟨?_, ?_⟩
        · intro i j hi hj
          rw [o3 _ (by omega)]
          rcases g2.1 i j hi hj with q | ⟨q1, q2, q3⟩
          · left; rw [q]; rfl
          · rcases q3 with q | q | q
            · right; rw [q]; exact ⟨q1, q2, Or.inl rfl⟩
            · right; rw [q]; exact ⟨q1, q2, Or.inr (Or.inl rfl)⟩
            · left; rw [q]; rfl
        · intro i j hi hj
          have hj' := hr_lt c1 hj
          rw [o3 _ (by omega), y, n]
          obtain ⟨z1, z2, z3⟩ := g2.2 i j hi hj
          rw [← z1, ← z2]
          by_cases e : a' 6 (21 * i + j) = 2
          · rw [if_pos e, e]; simp [noO]
          · rw [if_neg e]; simp [noO, e]
    · rw [if_neg h2, if_neg h2]; exact bad
theorem M_goalOf {s : jS} {a : jB} {nc : Nat} (hs : s 1 = nI nc) (hn : nc ≤ 20) (p : Int32) : (glB nc p = false → m_M_goalOf s a p = some (-1)) ∧ ∀ r, Gl nc p r → m_M_goalOf s a p = some (nI r) := by
  unfold m_M_goalOf
  rw [M_isClass hs hn]
  constructor
  · intro h
    unfold glB at h
    simp only [Bool.or_eq_false_iff, decide_eq_false_iff_not] at h
    rw [if_neg h.1, h.2, jb_s, if0f]; rfl
  · rintro r (h | h)
    · rw [if_pos h.1, h.2]; rfl
    · rw [if_neg (by rw [h.1]; exact nI_m1 (by omega)), h.1, jin_nI h.2 (by omega), jb_s, if0t]; rfl
theorem Gl.t {nc : Nat} (hn : nc ≤ 20) {p : Int32} {r : Nat} (h : Gl nc p r) : glB nc p = true := by
  unfold glB
  rcases h with h | h
  · simp [h.1]
  · rw [h.1, jin_nI h.2 (by omega)]; simp
theorem X_of {nc : Nat} {x : jAx} {s : jS} {a : jB} {f : Nat → Int32} (hn : nc ≤ 20) (hK : KI nc x a) (hE : Enc nc a f) {i j : Nat} (hi : i < nc) (hj : hr nc j) : m_XK_of s a (nI i) (nI j) = some (f (21 * i + j)) := by
  have hj' := hr_lt hn hj
  obtain ⟨z1, z2, z3⟩ := hE.2 i j hi hj
  unfold m_XK_of
  rw [jg_nI (by omega) (by decide), nI_clamp (by omega), x_has _ (by omega), jb_s, jg_nI (by omega) (by decide), x_has _ (by omega), jb_s, jg_nI (by omega) (by decide), x_has _ (by omega), jb_s]
  have hi' : i < 21 := by omega
  simp only [Yx, Nx, Ox, hi', true_and] at z1 z2 z3
  rcases hE.1 i j (by omega) hj' with q | ⟨q1, q2, q3⟩
  · have y : bt (a 7 i) j = false := by
      cases e : bt (a 7 i) j with
      | false => rfl
      | true => have := z1.mpr e; rw [q] at this; exact absurd this (by decide)
    have n : bt (a 9 i) j = false := by
      cases e : bt (a 9 i) j with
      | false => rfl
      | true => have := z2.mpr e; rw [q] at this; exact absurd this (by decide)
    have o : bt (a 10 i) j = false := by
      cases e : bt (a 10 i) j with
      | false => rfl
      | true => have := z3.mpr e; rw [q] at this; exact absurd this (by decide)
    rw [y, n, o, if0f, if0f, if0f, q]; rfl
  · rcases q3 with q | q | q
    · have y : bt (a 7 i) j = false := by
        cases e : bt (a 7 i) j with
        | false => rfl
        | true => have := z1.mpr e; rw [q] at this; exact absurd this (by decide)
      rw [y, z2.mp q, if0f, if0t, q]
    · rw [z1.mp q, if0t, q]
    · have y : bt (a 7 i) j = false := by
        cases e : bt (a 7 i) j with
        | false => rfl
        | true => have := z1.mpr e; rw [q] at this; exact absurd this (by decide)
      have n : bt (a 9 i) j = false := by
        cases e : bt (a 9 i) j with
        | false => rfl
        | true => have := z2.mpr e; rw [q] at this; exact absurd this (by decide)
      rw [y, n, z3.mp q, if0f, if0f, if0t, q]; rfl
theorem s_known : sim_known Rel := by
  rintro s a s' a' p0 p1 ⟨nc, nt, fu, x, mem, pl, hR⟩
  have hR' := hR
  obtain ⟨⟨c1, c2, c3, c4⟩, ⟨d0, d1, d2, d3, d4, d5, d6, d7⟩, ⟨e1, e2, e3⟩, ⟨f1, f2, f3⟩, ⟨g1, g2⟩, h1⟩ := hR'
  have rel : Rel s a s' a' := ⟨nc, nt, fu, x, mem, pl, hR⟩
  obtain ⟨m1, m2⟩ := M_goalOf (s := s') (a := a') e1.1 c1 p1
  unfold m_X_known m_M_known
  rw [X_isClass d0 c1, jb_s, X_isGoal d0 c1, jb_s, M_isClass e1.1 c1]
  cases hg : glB nc p1 with
  | false =>
    rw [m1 hg, jb_s, jb_s, if0f]
    cases hc : jin p0 nc with
    | false => exact ⟨-1, by rw [if0f], by rw [if0f]; rfl, rel⟩
    | true => exact ⟨-1, by rw [if0t], by rw [if0t]; rfl, rel⟩
  | true =>
    obtain ⟨r, hr0⟩ := gl_ex c1 hg
    have hrr := hr_lt c1 hr0.h
    rw [m2 r hr0, jb_s, jb_s, if0t]
    cases hc : jin p0 nc with
    | false => exact ⟨-1, by rw [if0f], by rw [if0f]; rfl, rel⟩
    | true =>
      obtain ⟨i, hi, rfl⟩ := jin_ex (by omega) hc
      rw [if0t, if0t, hr0.slot c1, jb_s, X_of c1 g1 g2 hi hr0.h, jb_s, if_pos (by show nI 0 ≤ nI r; exact j_le (by omega) (by omega)), jg_pair (by omega) hrr, cl_pair (by omega) hrr, jb_s]
      exact ⟨_, rfl, rfl, rel⟩
theorem X_isThing {s : jS} {a : jB} {nt : Nat} (hs : s 1 = nI nt) (hn : nt ≤ 8) (p : Int32) : m_X_isThing s a p = some (bI (jin p nt)) := by
  unfold m_X_isThing
  rw [hs]
  cases h : jin p nt with
  | true =>
    have := jin_t h
    rw [if_neg (by rw [lt0_iff]; omega), if_neg (by rw [nIle_iff (by omega)]; omega)]
    rfl
  | false =>
    rcases jin_f h with h | h
    · rw [if_pos ((lt0_iff p).mpr h)]; rfl
    · by_cases h0 : p < 0
      · rw [if_pos h0]; rfl
      · rw [if_neg h0, if_pos ((nIle_iff (by omega) p).mpr h)]; rfl
def memU (mem : Nat → Nat → Bool) (t0 c0 : Nat) : Nat → Nat → Bool := fun t c => if t = t0 ∧ c = c0 then true else mem t c
theorem s_put : sim_put Rel := by
  rintro s a s' a' p0 p1 ⟨nc, nt, fu, x, mem, pl, hR⟩
  have hR' := hR
  obtain ⟨⟨c1, c2, c3, c4⟩, ⟨d0, d1, d2, d3, d4, d5, d6, d7⟩, ⟨e1, e2, e3⟩, ⟨f1, f2, f3⟩, ⟨g1, g2⟩, h1⟩ := hR'
  have bad : ∃ v s1 a1 s2 a2, some ((-1 : Int32), s, a) = some (v, s1, a1) ∧ some ((-1 : Int32), s', a') = some (v, s2, a2) ∧ Rel s1 a1 s2 a2 := ⟨-1, s, a, s', a', rfl, rfl, nc, nt, fu, x, mem, pl, hR⟩
  unfold m_X_put m_M_put
  rw [X_isThing d1 c2, jb_s, X_isClass d0 c1, jb_s, e2, M_isClass e1.1 c1]
  cases ht : jin p0 nt with
  | false =>
    rw [if0f]
    rcases jin_f ht with h | h
    · rw [if_pos ((lt0_iff p0).mpr h)]; exact bad
    · by_cases h0 : p0 < 0
      · rw [if_pos h0]; exact bad
      · rw [if_neg h0, if_pos ((nIle_iff (by omega) p0).mpr h)]; exact bad
  | true =>
    obtain ⟨t0, ht0, rfl⟩ := jin_ex (by omega) ht
    rw [if0t, if_neg (nI_pos (by omega)), if_neg (j_lt ht0 (by omega)), jb_s]
    cases hc : jin p1 nc with
    | false => rw [if0f, if0f]; exact bad
    | true =>
      obtain ⟨c0, hc0, rfl⟩ := jin_ex (by omega) hc
      rw [if0t, if0t, jg_nI (by omega) (by decide), nI_clamp (by omega), x_has _ (by omega), jb_s, j_pair20, jg_nI (by omega) (by decide), nI_clamp (by omega), jb_s, jg_nI (by omega) (by decide), f1 t0 (by omega), f2 t0 c0 (by omega) (by omega), b_bs _ (by decide)]
      have m5 : MM (va_up a' 5 (upd (a' 5) (20 * t0 + c0) 1)) (memU mem t0 c0) := by
        intro t c h1 h2
        rw [up_self]
        unfold memU
        by_cases e : t = t0 ∧ c = c0
        · rw [if_pos e, e.1, e.2, upd_at]; rfl
        · rw [if_neg e, upd_ne _ _ (by omega)]; exact f2 t c h1 h2
      have m3 : ∀ t c, memU mem t0 c0 t c = true → c < nc := by
        intro t c q
        unfold memU at q
        split at q
        · rename_i e; rw [e.2]; exact hc0
        · exact f3 t c q
      have hM5 : MA s' (va_up a' 5 (upd (a' 5) (20 * t0 + c0) 1)) nc x := MA_same e1 rfl rfl (fun p _ _ => by rw [up_ne _ _ (by omega)])
      cases hm : mem t0 c0 with
      | true =>
        rw [show (decide (c0 < 20) && true) = true by simp; omega, if0t, show (if bI true = 0 then some (1 : Int32) else some 0) = some 0 from rfl, jb_s, jg_nI (by omega) (by decide)]
        refine ⟨0, _, _, _, _, rfl, rfl, nc, nt, fu, x, memU mem t0 c0, pl, ⟨c1, c2, c3, c4⟩, ⟨d0, d1, d2, d3, d4, d5, d6, d7⟩, ⟨hM5, e2, e3⟩, ⟨?_, m5, m3⟩, ⟨g1, by rw [up_ne _ _ (by decide)]; exact g2⟩, by rw [up_ne _ _ (by decide)]; exact h1⟩
        intro t h
        rw [f1 t h]
        refine bs_congr (fun i hi => ?_)
        unfold memU
        split
        · rename_i e; rw [e.1, e.2]; exact hm
        · rfl
      | false =>
        rw [show (decide (c0 < 20) && false) = false by simp, if0f, show (if bI false = 0 then some (1 : Int32) else some 0) = some 1 from rfl, jb_s, jg_nI (by omega) (by decide), x_bit, jb_s, jg_nI (by omega) (by decide)]
        refine ⟨1, _, _, _, _, rfl, rfl, nc, nt, fu, x, memU mem t0 c0, pl, ⟨c1, c2, c3, c4⟩, ⟨d0, d1, d2, d3, d4, ?_, d6, d7⟩, ⟨hM5, e2, e3⟩, ⟨?_, m5, m3⟩, ⟨?_, ?_⟩, by rw [up_ne _ _ (by decide)]; exact h1⟩
        · exact ⟨d5.1, d5.2.1, fun k hk => by rw [up_ne _ _ (by decide), up_ne _ _ (by decide)]; exact d5.2.2 k hk⟩
        · intro t h
          rw [up_self]
          by_cases e : t = t0
          · rw [e, upd_at]
            refine bs_eq (by decide) (fun i hi => ?_)
            rw [b_or, b_bs _ (by decide), b_b1 (by omega), Bool.eq_iff_iff]
            unfold memU
            by_cases e2 : i = c0
            · subst e2; simp; omega
            · simp [e2]
          · rw [upd_ne _ _ e, f1 t h]
            refine bs_congr (fun i hi => ?_)
            unfold memU
            rw [if_neg (by omega)]
        · exact KI_same (by rw [up_ne _ _ (by decide)]) (by rw [up_ne _ _ (by decide)]) (by rw [up_ne _ _ (by decide)]) (by rw [up_ne _ _ (by decide)]) g1
        · rw [up_ne _ _ (show (6 : Nat) ≠ 5 by decide)]
          exact Enc_same (by rw [up_ne _ _ (by decide)]) (by rw [up_ne _ _ (by decide)]) (by rw [up_ne _ _ (by decide)]) g2
theorem cb_bs {p : Nat → Bool} {n : Nat} (hn : n ≤ 21) : cb (bt (bs p n)) 21 = cb p n := by
  rw [show 21 = n + (21 - n) by omega, cb_add, cb_none (q := fun i => bt (bs p n) (n + i)) (fun i hi => by rw [b_bs _ (by omega), decide_eq_false (by omega)]; rfl), Nat.add_zero]
  exact cb_congr (fun i hi => by rw [b_bs _ (by omega)]; simp [hi])
theorem s_count : sim_count Rel := by
  rintro s a s' a' p0 ⟨nc, nt, fu, x, mem, pl, hR⟩
  have hR' := hR
  obtain ⟨⟨c1, c2, c3, c4⟩, ⟨d0, d1, d2, d3, d4, d5, d6, d7⟩, ⟨e1, e2, e3⟩, ⟨f1, f2, f3⟩, ⟨g1, g2⟩, h1⟩ := hR'
  have rel : Rel s a s' a' := ⟨nc, nt, fu, x, mem, pl, hR⟩
  have h40 := d5.2.1
  unfold m_X_count m_M_count
  by_cases q0 : p0 = 0
  · rw [if_pos q0, if_pos q0, d0, e1.1]; exact ⟨_, rfl, rfl, rel⟩
  rw [if_neg q0, if_neg q0]
  by_cases q1 : p0 = 1
  · rw [if_pos q1, if_pos q1]
    refine ⟨nI (cb x.2.2.2.2 x.1), ?_, ?_, rel⟩
    · unfold m_XA_thereNow; rw [jb_s, d6]
    · refine lp_cnt (fun f z y => L_M_count_51 s' a' (fun x2 => some x2) f z y) _ x.1 (by omega) (fun z => some z) (fun f k z hk => ?_) (fun f z => ?_)
      · show L_M_count_51 s' a' _ (f + 1) z (nI k) = _
        rw [L_M_count_51, e1.2.2.1, if_neg (j_lt hk (by omega)), jg_nI (by omega) (by decide), nI_clamp (by omega), (e1.2.2.2.2 k hk).2.2.2.2.2.2, nI_1]
        cases x.2.2.2.2 k <;> rfl
      · show L_M_count_51 s' a' _ (f + 1) z (nI x.1) = _
        rw [L_M_count_51, e1.2.2.1, if_pos (j_le (Nat.le_refl _) (by omega))]
  rw [if_neg q1, if_neg q1]
  by_cases q2 : p0 = 2
  · rw [if_pos q2, if_pos q2, d1, e2]; exact ⟨_, rfl, rfl, rel⟩
  rw [if_neg q2, if_neg q2]
  by_cases q3 : p0 = 3
  · rw [if_pos q3, if_pos q3, d2]; exact ⟨_, rfl, rfl, rel⟩
  rw [if_neg q3, if_neg q3]
  by_cases q4 : p0 = 4
  · rw [if_pos q4, if_pos q4, d0, open_cnt c1 g1 g2, jb_s, M_openPairs, jb_s]; exact ⟨_, rfl, rfl, rel⟩
  rw [if_neg q4, if_neg q4]
  by_cases q5 : p0 = 5
  · rw [if_pos q5, if_pos q5, d3]
    split
    · exact ⟨_, rfl, rfl, rel⟩
    · exact ⟨_, rfl, rfl, rel⟩
  rw [if_neg q5, if_neg q5]
  by_cases q6 : p0 = 6
  · rw [if_pos q6, if_pos q6]
    refine ⟨if s 3 = 0 then 0 else nI (cb pl nc), ?_, ?_, rel⟩
    · by_cases z : s 3 = 0
      · rw [if_pos z, if_pos z]; rfl
      · rw [if_neg z, if_neg z]
        unfold m_XO_placedClasses
        rw [jb_s, (h1 (d4.resolve_left z)).1, x_bitCount (fun i hi => by rw [b_bs _ (by omega)]; simp; omega), jb_s, cb_bs (by omega)]
        rfl
    · have key := lp_cnt (fun f z y => L_M_count_114 s' a' (fun x2 => some x2) f z y) (fun c => decide (s 3 ≠ 0) && pl c) nc (by omega) (fun z => some z) (fun f k z hk => ?_) (fun f z => ?_)
      · refine key.trans ?_
        by_cases z : s 3 = 0
        · rw [if_pos z, cb_none (fun i _ => by simp [z])]; rfl
        · rw [if_neg z, cb_congr (q := pl) (fun i _ => by simp [z])]
      · show L_M_count_114 s' a' _ (f + 1) z (nI k) = _
        rw [L_M_count_114, e1.1, if_neg (j_lt hk (by omega)), ← d3, nI_1]
        by_cases z0 : s 3 = 0
        · rw [if_pos z0, jb_s, z0]; rfl
        · rw [if_neg z0, jg_nI (by omega) (by decide), nI_clamp (by omega), (h1 (d4.resolve_left z0)).2.2 k (by omega), decide_eq_true hk, d4.resolve_left z0]
          cases pl k <;> rfl
      · show L_M_count_114 s' a' _ (f + 1) z (nI nc) = _
        rw [L_M_count_114, e1.1, if_pos (j_le (Nat.le_refl _) (by omega))]
  · rw [if_neg q6, if_neg q6]; exact ⟨_, rfl, rfl, rel⟩

/-! counting pairs on both sides -/
def sm (g : Nat → Nat) : Nat → Nat
  | 0 => 0
  | n + 1 => sm g n + g n
theorem sm_congr {g h : Nat → Nat} {n : Nat} (e : ∀ i, i < n → g i = h i) : sm g n = sm h n := by
  induction n with
  | zero => rfl
  | succ n ih => rw [sm, sm, ih (fun i hi => e i (by omega)), e n (by omega)]
theorem sm_tail {g : Nat → Nat} {n : Nat} : ∀ {m : Nat}, n ≤ m → (∀ i, n ≤ i → i < m → g i = 0) → sm g m = sm g n := by
  intro m
  induction m with
  | zero => intro h _; have : n = 0 := by omega
            rw [this]
  | succ m ih =>
    intro h hz
    by_cases e : n = m + 1
    · rw [e]
    · rw [sm, hz m (by omega) (by omega), ih (by omega) (fun i h1 h2 => hz i h1 (by omega))]; rfl
theorem cb_rows (q : Nat → Bool) : ∀ n, cb q (21 * n) = sm (fun i => cb (fun j => q (21 * i + j)) 21) n := by
  intro n
  induction n with
  | zero => rfl
  | succ n ih => rw [sm, ← ih, Nat.mul_succ, cb_add]
theorem cb_none {q : Nat → Bool} {n : Nat} (h : ∀ i, i < n → q i = false) : cb q n = 0 := by
  induction n with
  | zero => rfl
  | succ n ih => rw [cb, ih (fun i hi => h i (by omega)), h n (by omega)]; rfl
theorem rows_cnt {nc : Nat} (hn : nc ≤ 20) {w : Nat → Int32} {q : Nat → Bool} (h1 : ∀ i j, i < nc → j < 21 → bt (w i) j = q (21 * i + j)) (h2 : ∀ i j, nc ≤ i → i < 20 → j < 21 → q (21 * i + j) = false) : sm (fun i => cb (bt (w i)) 21) nc = cb q 420 := by
  rw [show 420 = 21 * 20 from rfl, cb_rows, sm_tail hn (fun i hi h => cb_none (fun j hj => h2 i j hi h hj))]
  exact sm_congr (fun i hi => cb_congr (fun j hj => h1 i j hi hj))
theorem cb_split {p q : Nat → Bool} {n : Nat} (h : ∀ i, i < n → q i = true → p i = true) : cb p n = cb q n + cb (fun i => p i && !q i) n := by
  induction n with
  | zero => rfl
  | succ n ih =>
    rw [cb, cb, cb, ih (fun i hi => h i (by omega))]
    have := h n (by omega)
    cases hp : p n <;> cases hq : q n <;> simp [hp, hq] at this ⊢ <;> omega
theorem nI_bI (n : Nat) (b : Bool) : nI n + bI b = nI (n + if b = true then 1 else 0) := by
  cases b with
  | false => rw [bI_f, if_neg (by decide)]; show nI n + nI 0 = _; rw [nI_add]
  | true => rw [bI_t, if_pos rfl, nI_1]
theorem lp_cnt {R : Type} (L : Nat → Int32 → Int32 → Option R) (q : Nat → Bool) (N : Nat) (hN : N < 4096) (kk : Int32 → Option R) (step : ∀ f k z, k < N → L (f + 1) z (nI k) = L f (z + bI (q k)) (nI (k + 1))) (fin : ∀ f z, L (f + 1) z (nI N) = kk z) : L jF 0 0 = kk (nI (cb q N)) := by
  refine lp_up0 L (fun k => nI (cb q k)) N kk hN (fun f k hk => ?_) (fun f => fin f _)
  rw [step f k _ hk, nI_bI]; rfl
theorem x_openPairs {nc : Nat} (hn : nc ≤ 20) {s : jS} {a : jB} (h : ∀ i j, i < 21 → bt (a 10 i) j = true → j < 21) : m_XK_openPairs s a (nI nc) = some (nI (sm (fun i => cb (bt (a 10 i)) 21) nc)) := by
  unfold m_XK_openPairs
  refine lp_up0 (fun f z y => L_XK_openPairs_4 s a (nI nc) (fun x3 => some x3) f z y) (fun k => nI (sm (fun i => cb (bt (a 10 i)) 21) k)) nc (fun z => some z) (by omega) (fun f k hk => ?_) (fun f => ?_)
  · show L_XK_openPairs_4 s a (nI nc) _ (f + 1) _ (nI k) = _
    rw [L_XK_openPairs_4, if_neg (j_lt hk (by omega)), if_neg (show ¬ (20 : Int32) ≤ nI k from j_lt (n := 20) (by omega) (by decide)), jg_nI (by omega) (by decide), nI_clamp (by omega), x_bitCount (fun i hi => by
      cases e : bt (a 10 k) i with
      | false => rfl
      | true => have := h k i (by omega) e; omega), jb_s, nI_add, nI_1]
    rfl
  · show L_XK_openPairs_4 s a (nI nc) _ (f + 1) _ (nI nc) = _
    rw [L_XK_openPairs_4, if_pos (j_le (Nat.le_refl _) (by omega))]
theorem x_knownPairs {nc : Nat} (hn : nc ≤ 20) {s : jS} {a : jB} (h : ∀ i j, i < 21 → bt (a 7 i ||| a 9 i ||| a 10 i) j = true → j < 21) : m_XK_knownPairs s a (nI nc) = some (nI (sm (fun i => cb (bt (a 7 i ||| a 9 i ||| a 10 i)) 21) nc)) := by
  unfold m_XK_knownPairs
  refine lp_up0 (fun f z y => L_XK_knownPairs_4 s a (nI nc) (fun x3 => some x3) f z y) (fun k => nI (sm (fun i => cb (bt (a 7 i ||| a 9 i ||| a 10 i)) 21) k)) nc (fun z => some z) (by omega) (fun f k hk => ?_) (fun f => ?_)
  · show L_XK_knownPairs_4 s a (nI nc) _ (f + 1) _ (nI k) = _
    rw [L_XK_knownPairs_4, if_neg (j_lt hk (by omega)), if_neg (show ¬ (20 : Int32) ≤ nI k from j_lt (n := 20) (by omega) (by decide)), jg_nI (by omega) (by decide), jg_nI (by omega) (by decide), jg_nI (by omega) (by decide), nI_clamp (by omega), x_bitCount (fun i hi => by
      cases e : bt (a 7 k ||| a 9 k ||| a 10 k) i with
      | false => rfl
      | true => have := h k i (by omega) e; omega), jb_s, nI_add, nI_1]
    rfl
  · show L_XK_knownPairs_4 s a (nI nc) _ (f + 1) _ (nI nc) = _
    rw [L_XK_knownPairs_4, if_pos (j_le (Nat.le_refl _) (by omega))]
theorem kn_iff {nc : Nat} {x : jAx} {a : jB} {f : Nat → Int32} (hK : KI nc x a) (hE : Enc nc a f) {i j : Nat} (hi : i < 20) (hj : j < 21) : f (21 * i + j) ≠ 3 ↔ i < nc ∧ (Yx a i j ∨ Nx a i j ∨ Ox a i j) := by
  obtain ⟨hs, -⟩ := hK
  constructor
  · intro h
    rcases hE.1 i j hi hj with q | ⟨q1, q2, q3⟩
    · exact absurd q h
    · obtain ⟨z1, z2, z3⟩ := hE.2 i j q1 q2
      rcases q3 with q | q | q
      · exact ⟨q1, Or.inr (Or.inl (z2.mp q))⟩
      · exact ⟨q1, Or.inl (z1.mp q)⟩
      · exact ⟨q1, Or.inr (Or.inr (z3.mp q))⟩
  · rintro ⟨h0, h⟩
    have hh : hr nc j := by
      rcases h with h | h | h
      · exact (hs.2.2.1 _ _ h).2
      · exact (hs.2.2.2.1 _ _ h).2
      · exact (hs.2.2.2.2 _ _ h).2
    obtain ⟨z1, z2, z3⟩ := hE.2 i j h0 hh
    rcases h with h | h | h
    · rw [z1.mpr h]; decide
    · rw [z2.mpr h]; decide
    · rw [z3.mpr h]; decide
theorem kn_bits {nc : Nat} {x : jAx} {a : jB} (hn : nc ≤ 20) (hK : KI nc x a) {i j : Nat} (hi : i < 21) : (bt (a 7 i ||| a 9 i ||| a 10 i) j = true ↔ (Yx a i j ∨ Nx a i j ∨ Ox a i j)) ∧ (bt (a 7 i ||| a 9 i ||| a 10 i) j = true → j < 21) := by
  have h1 : bt (a 7 i ||| a 9 i ||| a 10 i) j = true ↔ (Yx a i j ∨ Nx a i j ∨ Ox a i j) := by
    rw [b_or, b_or]
    unfold Yx Nx Ox
    simp [hi, or_assoc]
  refine ⟨h1, fun h => ?_⟩
  obtain ⟨hs, -⟩ := hK
  rcases h1.mp h with h | h | h
  · exact hr_lt hn (hs.2.2.1 _ _ h).2
  · exact hr_lt hn (hs.2.2.2.1 _ _ h).2
  · exact hr_lt hn (hs.2.2.2.2 _ _ h).2
theorem known_cnt {nc : Nat} {x : jAx} {s : jS} {a : jB} {f : Nat → Int32} (hn : nc ≤ 20) (hK : KI nc x a) (hE : Enc nc a f) : m_XK_knownPairs s a (nI nc) = some (nI (cb (fun n => decide (f n ≠ 3)) 420)) := by
  rw [x_knownPairs hn (fun i j hi h => (kn_bits hn hK hi).2 h), rows_cnt hn (q := fun n => decide (f n ≠ 3))]
  · intro i j hi hj
    rw [Bool.eq_iff_iff, (kn_bits hn hK (by omega)).1, decide_eq_true_eq, kn_iff hK hE (by omega) hj]
    exact ⟨fun q => ⟨hi, q⟩, fun q => q.2⟩
  · intro i j h1 h2 hj
    rw [decide_eq_false_iff_not, kn_iff hK hE h2 hj]
    omega
theorem o_iff {nc : Nat} {x : jAx} {a : jB} {f : Nat → Int32} (hK : KI nc x a) (hE : Enc nc a f) {i j : Nat} (hi : i < 20) (hj : j < 21) : f (21 * i + j) = 2 ↔ Ox a i j := by
  rw [Enc_O hK hE]
  refine ⟨fun h => ?_, fun h => h.2.2⟩
  rcases hE.1 i j hi hj with q | ⟨q1, q2, q3⟩
  · rw [q] at h; exact absurd h (by decide)
  · exact ⟨q1, q2, h⟩
theorem open_cnt {nc : Nat} {x : jAx} {s : jS} {a : jB} {f : Nat → Int32} (hn : nc ≤ 20) (hK : KI nc x a) (hE : Enc nc a f) : m_XK_openPairs s a (nI nc) = some (nI (cb (fun n => decide (f n = 2)) 420)) := by
  have hs := hK.1
  rw [x_openPairs hn (fun i j hi h => hr_lt hn (hs.2.2.2.2 i j ⟨hi, h⟩).2), rows_cnt hn (q := fun n => decide (f n = 2))]
  · intro i j hi hj
    rw [Bool.eq_iff_iff, decide_eq_true_eq, o_iff hK hE (by omega) hj]
    exact ⟨fun q => ⟨by omega, q⟩, fun q => q.2⟩
  · intro i j h1 h2 hj
    rw [decide_eq_false_iff_not, o_iff hK hE h2 hj]
    intro q
    have := hK.2.2.2.2.2.2.2 i j q
    omega
theorem M_openPairs (s : jS) (a : jB) : m_M_openPairs s a = some (nI (cb (fun n => decide (a 6 n = 2)) 420)) := by
  unfold m_M_openPairs
  refine lp_cnt (fun f z y => L_M_openPairs_4 s a (fun x2 => some x2) f z y) _ 420 (by decide) (fun z => some z) (fun f k z hk => ?_) (fun f z => ?_)
  · show L_M_openPairs_4 s a _ (f + 1) z (nI k) = _
    rw [L_M_openPairs_4, if_neg (show ¬ (420 : Int32) ≤ nI k from j_lt (n := 420) hk (by decide)), jg_nI hk (by decide), nI_clamp (by omega), nI_1]
    by_cases e : a 6 k = 2
    · rw [if_pos e, jb_s, decide_eq_true e]; rfl
    · rw [if_neg e, jb_s, decide_eq_false e]; rfl
  · show L_M_openPairs_4 s a _ (f + 1) z (nI 420) = _
    rw [L_M_openPairs_4, if_pos (show (420 : Int32) ≤ nI 420 by decide)]
theorem M_lost (s : jS) (a : jB) (kk : Int32 → Option (Int32 × jS × jB)) : L_M_remove_76 s a kk jF 0 0 = kk (nI (cb (fun n => decide (a 7 n ≠ 3) && decide (a 6 n = 3)) 420)) := by
  refine lp_cnt (fun f z y => L_M_remove_76 s a kk f z y) _ 420 (by decide) kk (fun f k z hk => ?_) (fun f z => ?_)
  · show L_M_remove_76 s a _ (f + 1) z (nI k) = _
    rw [L_M_remove_76, if_neg (show ¬ (420 : Int32) ≤ nI k from j_lt (n := 420) hk (by decide)), jg_nI hk (by decide), nI_clamp (by omega), nI_1]
    by_cases e : a 7 k = 3
    · rw [if_pos e, jb_s]; simp [e, bI]
    · rw [if_neg e, jg_nI hk (by decide)]
      by_cases e2 : a 6 k = 3
      · rw [if_pos e2, jb_s]; simp [e, e2]; rfl
      · rw [if_neg e2, jb_s]; simp [e, e2, bI]
  · show L_M_remove_76 s a _ (f + 1) z (nI 420) = _
    rw [L_M_remove_76, if_pos (show (420 : Int32) ≤ nI 420 by decide)]

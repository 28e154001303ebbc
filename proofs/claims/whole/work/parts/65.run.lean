/-! run -/
theorem YT_of {nc : Nat} {x : jAx} {a : jB} (hn : nc ≤ 20) (hK : KI nc x a) : YT nc (Yb a) := by
  refine ⟨fun i hi => (Yb_iff (by omega)).mpr (hK.2.1.1 i (Or.inl hi)), fun i j k hi hj hk h1 h2 => ?_⟩
  exact (Yb_iff (by omega)).mpr (hK.2.1.2.2 i j k ((Yb_iff (by omega)).mp h1) ((Yb_iff (by omega)).mp h2))
theorem RI_9 {nc nt fu : Nat} {x : jAx} {mem : Nat → Nat → Bool} {P E : Nat → Bool} {s : jS} {a : jB} {s' : jS} {a' : jB} (hR : RI nc nt fu x mem P E s a s' a') (g : Nat → Int32) : RI nc nt fu x mem P E s a s' (va_up a' 9 g) := by
  obtain ⟨hc, hd, ⟨e1, e2, e3⟩, ⟨f1, f2, f3⟩, ⟨g1, g2⟩, ⟨p1, p2, p3, p4, p5⟩⟩ := hR
  exact ⟨hc, hd, ⟨MA_same e1 rfl rfl (fun p _ _ => by rw [up_ne _ _ (by omega)]), e2, e3⟩, ⟨f1, (fun t c ht hc => by rw [up_ne _ _ (by decide)]; exact f2 t c ht hc), f3⟩, ⟨g1, by rw [up_ne _ _ (by decide)]; exact g2⟩, ⟨p1, p2, p3, (fun c hc => by rw [up_ne _ _ (by decide)]; exact p4 c hc), p5⟩⟩
theorem bs_rem {rem : Nat → Bool} {k0 : Nat} (hk : k0 < 20) : bs rem 20 &&& (b1 k0 ^^^ (-1)) = bs (fun k => rem k && !decide (k = k0)) 20 := by
  refine bs_eq (by decide) (fun i hi => ?_)
  rw [b_and, b_bs _ (by decide), b_not _ hi, b_b1 (by omega), Bool.and_assoc]
theorem bs_ins20 {F : Nat → Bool} {c : Nat} (hc : c < 20) : bs F 20 ||| b1 c = bs (insB F c) 20 := by
  refine bs_eq (by decide) (fun i hi => ?_)
  rw [b_or, b_bs _ (by decide), b_b1 (by omega), Bool.eq_iff_iff]
  unfold insB
  by_cases e : i = c
  · subst e; simp [hc]
  · simp [e]
theorem M_goclear (s : jS) (a : jB) (kk : jS → jB → Option (jS × jB)) : ∃ g, (∀ n, n < 20 → g n = 0) ∧ L_M_go_2 kk jF s a 0 = kk s (va_up a 9 g) := by
  have key := lp_out0 (fun f (g : Nat → Int32) y => L_M_go_2 kk f s (va_up a 9 g) y) (fun k g => ∀ n, n < k → g n = 0) 20 (fun o => ∃ g, (∀ n, n < 20 → g n = 0) ∧ o = kk s (va_up a 9 g)) (by decide) ?_ ?_ (a 9) ?_
  · rw [up_id] at key; exact key
  · intro f k g hk hI
    left
    refine ⟨upd g k 0, ?_, ?_⟩
    · intro n hn
      by_cases e : n = k
      · rw [e, upd_at]
      · rw [upd_ne _ _ e]; exact hI n (by omega)
    · show L_M_go_2 kk (f + 1) s (va_up a 9 g) (nI k) = _
      rw [L_M_go_2, if_neg (show ¬ (20 : Int32) ≤ nI k from j_lt (n := 20) hk (by decide)), jg_nI hk (by decide), nI_clamp (by omega), up_self, up_up, nI_1]
  · intro f g hI
    refine ⟨g, hI, ?_⟩
    show L_M_go_2 kk (f + 1) s _ (nI 20) = _
    rw [L_M_go_2, if_pos (show (20 : Int32) ≤ nI 20 by decide)]
  · intro n hn; omega
theorem search1 {nc nt fu : Nat} {x : jAx} {mem : Nat → Nat → Bool} {P E : Nat → Bool} {c : Nat} (hc : c < nc) : ∀ (d t : Nat), t + d = 20 → ∀ (rem lk : Nat → Bool) (s : jS) (a : jB) (s' : jS) (a' : jB) (f g : Nat), RI nc nt fu x mem P E s a s' a' → (∀ k, k < 20 → a' 9 k = bI (lk k)) → (∀ k, k < 20 → rem k = (P k && !lk k)) → cb rem 20 ≤ d → d < f → d < g →
    ∃ s1 a1 s2 a2, L_XO_searchDown_7 (nI c) (fun s9 a10 => some (s9, a10)) f s a (bs rem 20) (nI t) = some (s1, a1) ∧ jb (m_M_nextFor s' a' (nI c) 1) (fun v => L_M_go_28 (nI c) 1 (fun s19 a20 => some (s19, a20)) g s' a' v) = some (s2, a2) ∧ RI nc nt fu x mem P E s1 a1 s2 a2 := by
  intro d
  induction d with
  | zero =>
    intro t ht rem lk s a s' a' f g hR h9 hrem hcb hf hg
    obtain ⟨f, rfl⟩ : ∃ m, f = m + 1 := ⟨f - 1, by omega⟩
    obtain ⟨g, rfl⟩ : ∃ m, g = m + 1 := ⟨g - 1, by omega⟩
    have hR' := hR
    obtain ⟨⟨c1, c2, c3, c4⟩, ⟨d0, d1, d2, d5, d6, d7⟩, ⟨e1, e2, e3⟩, ⟨f1, f2, f3⟩, ⟨g1, g2⟩, ⟨p1, p2, p3, p4, p5⟩⟩ := hR'
    have ht20 : t = 20 := by omega
    subst ht20
    have none' : fstB (fun k => (P k && !lk k) && dnM nc P (Yb a) c k) nc = none := by
      refine fstB_none (fun k hk => ?_)
      have : rem k = false := by
        cases e : rem k with
        | false => rfl
        | true =>
          have := cb_lt (p := fun _ => false) (q := rem) (n := 20) (c0 := k) (fun c _ q => by cases q) (by omega) rfl e
          omega
      rw [← hrem k (by omega), this]; rfl
    rw [L_XO_searchDown_7, if_pos (show (20 : Int32) ≤ nI 20 by decide), M_next1 c1 e1.1 (MB_of c1 g1 g2) p4 h9 hc, jb_s, none']
    refine ⟨s, a, s', a', rfl, ?_, hR⟩
    rw [L_M_go_28, if_pos (by decide)]
  | succ d ih =>
    intro t ht rem lk s a s' a' f g hR h9 hrem hcb hf hg
    obtain ⟨f, rfl⟩ : ∃ m, f = m + 1 := ⟨f - 1, by omega⟩
    obtain ⟨g, rfl⟩ : ∃ m, g = m + 1 := ⟨g - 1, by omega⟩
    have hR' := hR
    obtain ⟨⟨c1, c2, c3, c4⟩, ⟨d0, d1, d2, d5, d6, d7⟩, ⟨e1, e2, e3⟩, ⟨f1, f2, f3⟩, ⟨g1, g2⟩, ⟨p1, p2, p3, p4, p5⟩⟩ := hR'
    have hY := YT_of c1 g1
    have eqn : fstB (fun k => rem k && dnX nc P (Yb a) c k) 20 = fstB (fun k => (P k && !lk k) && dnM nc P (Yb a) c k) nc := by
      refine fstB_ext (n := nc) (m := 20) c1 (fun k hk => ?_) (fun k h1 h2 => ?_)
      · rw [hrem k (by omega)]
        cases hp : (P k && !lk k) with
        | false => rfl
        | true =>
          rw [Bool.and_eq_true] at hp
          rw [dn_eq hY p5 hc hk]
      · rw [hrem k h2]
        cases hp : P k with
        | false => rfl
        | true => have := p5 k hp; omega
    rw [L_XO_searchDown_7, if_neg (show ¬ (20 : Int32) ≤ nI t from j_lt (n := 20) (by omega) (by decide)), x_next1 c1 g1.1 p2 p5 hc, jb_s, eqn, M_next1 c1 e1.1 (MB_of c1 g1 g2) p4 h9 hc, jb_s]
    cases hf' : fstB (fun k => (P k && !lk k) && dnM nc P (Yb a) c k) nc with
    | none =>
      refine ⟨s, a, s', a', ?_, ?_, hR⟩
      · dsimp only
        rw [if_pos rfl]
      · dsimp only
        rw [L_M_go_28, if_pos (by decide)]
    | some k =>
      obtain ⟨q1, q2, q3⟩ := (fstB_spec _ _).1 k hf'
      simp only [Bool.and_eq_true, Bool.not_eq_true'] at q2
      obtain ⟨⟨r1, r2⟩, r3⟩ := q2
      obtain ⟨v, s1, a1, s2, a2, k1, k2, k3, k4⟩ := answer_both (RI_9 hR (upd (a' 9) k 1)) (i := c) (j := k) hc (Or.inl q1)
      rw [up_self] at k4
      dsimp only
      rw [if_neg (nI_m6 (by omega)), x_bit, jb_s, k1, jb3_s, nI_1, bs_rem (by omega), L_M_go_28, if_neg (nI_pos (by omega)), jg_nI (by omega) (by decide), nI_clamp (by omega), if_neg (show ¬ (1 : Int32) = 0 by decide), k2, jb3_s]
      have hrk : rem k = true := by rw [hrem k (by omega), r1, r2]; rfl
      refine ih (t + 1) (by omega) (fun m => rem m && !decide (m = k)) (fun m => lk m || decide (m = k)) s1 a1 s2 a2 f g k3 (fun m hm => ?_) (fun m hm => ?_) ?_ (by omega) (by omega)
      · rw [k4]
        by_cases e : m = k
        · rw [e, upd_at, decide_eq_true rfl, Bool.or_true]; rfl
        · rw [upd_ne _ _ e, h9 m hm, decide_eq_false e, Bool.or_false]
      · show (rem m && !decide (m = k)) = (P m && !(lk m || decide (m = k)))
        rw [hrem m hm, Bool.not_or, Bool.and_assoc]
      · have := cb_lt (p := fun m => rem m && !decide (m = k)) (q := rem) (n := 20) (c0 := k) (fun m _ q => by rw [Bool.and_eq_true] at q; exact q.1) (by omega) (by simp) hrk
        omega
theorem go1 {nc nt fu : Nat} {x : jAx} {mem : Nat → Nat → Bool} {P E : Nat → Bool} {c : Nat} (hc : c < nc) {s : jS} {a : jB} {s' : jS} {a' : jB} (hR : RI nc nt fu x mem P E s a s' a') :
    ∃ s1 a1 s2 a2, m_XO_searchDown s a (nI c) = some (s1, a1) ∧ m_M_go s' a' (nI c) 1 = some (s2, a2) ∧ RI nc nt fu x mem P E s1 a1 s2 a2 := by
  unfold m_XO_searchDown m_M_go
  obtain ⟨g, g0, g1⟩ := M_goclear s' a' (fun s1 a2 => jb (m_M_nextFor s1 a2 (nI c) 1) (fun v6 => L_M_go_28 (nI c) 1 (fun s19 a20 => some (s19, a20)) jF s1 a2 v6))
  rw [g1, show s 9 = bs P 20 from hR.2.2.2.2.2.2.1]
  exact search1 hc 20 0 rfl P (fun _ => false) s a s' (va_up a' 9 g) jF jF (RI_9 hR g) (fun k hk => by rw [up_self, g0 k hk]; rfl) (fun k _ => by simp) (cb_le _ _) (by decide) (by decide)
theorem search0 {nc nt fu : Nat} {x : jAx} {mem : Nat → Nat → Bool} {P E : Nat → Bool} {c : Nat} (hc : c < nc) : ∀ (d t : Nat), t + d = 20 → ∀ (rem lk : Nat → Bool) (s : jS) (a : jB) (s' : jS) (a' : jB) (f g : Nat), RI nc nt fu x mem P E s a s' a' → (∀ k, k < 20 → a' 9 k = bI (lk k)) → (∀ k, k < 20 → rem k = (P k && !lk k)) → cb rem 20 ≤ d → d < f → d < g →
    ∃ s1 a1 s2 a2, L_XO_searchUp_7 (nI c) (fun s9 a10 => some (s9, a10)) f s a (bs rem 20) (nI t) = some (s1, a1) ∧ jb (m_M_nextFor s' a' (nI c) 0) (fun v => L_M_go_28 (nI c) 0 (fun s19 a20 => some (s19, a20)) g s' a' v) = some (s2, a2) ∧ RI nc nt fu x mem P E s1 a1 s2 a2 := by
  intro d
  induction d with
  | zero =>
    intro t ht rem lk s a s' a' f g hR h9 hrem hcb hf hg
    obtain ⟨f, rfl⟩ : ∃ m, f = m + 1 := ⟨f - 1, by omega⟩
    obtain ⟨g, rfl⟩ : ∃ m, g = m + 1 := ⟨g - 1, by omega⟩
    have hR' := hR
    obtain ⟨⟨c1, c2, c3, c4⟩, ⟨d0, d1, d2, d5, d6, d7⟩, ⟨e1, e2, e3⟩, ⟨f1, f2, f3⟩, ⟨g1, g2⟩, ⟨p1, p2, p3, p4, p5⟩⟩ := hR'
    have ht20 : t = 20 := by omega
    subst ht20
    have none' : fstB (fun k => (P k && !lk k) && upM nc P (Yb a) c k) nc = none := by
      refine fstB_none (fun k hk => ?_)
      have : rem k = false := by
        cases e : rem k with
        | false => rfl
        | true =>
          have := cb_lt (p := fun _ => false) (q := rem) (n := 20) (c0 := k) (fun c _ q => by cases q) (by omega) rfl e
          omega
      rw [← hrem k (by omega), this]; rfl
    rw [L_XO_searchUp_7, if_pos (show (20 : Int32) ≤ nI 20 by decide), M_next0 c1 e1.1 (MB_of c1 g1 g2) p4 h9 hc, jb_s, none']
    refine ⟨s, a, s', a', rfl, ?_, hR⟩
    rw [L_M_go_28, if_pos (by decide)]
  | succ d ih =>
    intro t ht rem lk s a s' a' f g hR h9 hrem hcb hf hg
    obtain ⟨f, rfl⟩ : ∃ m, f = m + 1 := ⟨f - 1, by omega⟩
    obtain ⟨g, rfl⟩ : ∃ m, g = m + 1 := ⟨g - 1, by omega⟩
    have hR' := hR
    obtain ⟨⟨c1, c2, c3, c4⟩, ⟨d0, d1, d2, d5, d6, d7⟩, ⟨e1, e2, e3⟩, ⟨f1, f2, f3⟩, ⟨g1, g2⟩, ⟨p1, p2, p3, p4, p5⟩⟩ := hR'
    have hY := YT_of c1 g1
    have eqn : fstB (fun k => rem k && upX nc P (Yb a) c k) 20 = fstB (fun k => (P k && !lk k) && upM nc P (Yb a) c k) nc := by
      refine fstB_ext (n := nc) (m := 20) c1 (fun k hk => ?_) (fun k h1 h2 => ?_)
      · rw [hrem k (by omega)]
        cases hp : (P k && !lk k) with
        | false => rfl
        | true =>
          rw [Bool.and_eq_true] at hp
          rw [up_eq hY p5 hc hp.1]
      · rw [hrem k h2]
        cases hp : P k with
        | false => rfl
        | true => have := p5 k hp; omega
    rw [L_XO_searchUp_7, if_neg (show ¬ (20 : Int32) ≤ nI t from j_lt (n := 20) (by omega) (by decide)), x_next0 c1 g1.1 p2 p5 hc, jb_s, eqn, M_next0 c1 e1.1 (MB_of c1 g1 g2) p4 h9 hc, jb_s]
    cases hf' : fstB (fun k => (P k && !lk k) && upM nc P (Yb a) c k) nc with
    | none =>
      refine ⟨s, a, s', a', ?_, ?_, hR⟩
      · dsimp only
        rw [if_pos rfl]
      · dsimp only
        rw [L_M_go_28, if_pos (by decide)]
    | some k =>
      obtain ⟨q1, q2, q3⟩ := (fstB_spec _ _).1 k hf'
      simp only [Bool.and_eq_true, Bool.not_eq_true'] at q2
      obtain ⟨⟨r1, r2⟩, r3⟩ := q2
      obtain ⟨v, s1, a1, s2, a2, k1, k2, k3, k4⟩ := answer_both (RI_9 hR (upd (a' 9) k 1)) (i := k) (j := c) q1 (Or.inl hc)
      rw [up_self] at k4
      dsimp only
      rw [if_neg (nI_m6 (by omega)), x_bit, jb_s, k1, jb3_s, nI_1, bs_rem (by omega), L_M_go_28, if_neg (nI_pos (by omega)), jg_nI (by omega) (by decide), nI_clamp (by omega), if_pos rfl, k2, jb3_s]
      have hrk : rem k = true := by rw [hrem k (by omega), r1, r2]; rfl
      refine ih (t + 1) (by omega) (fun m => rem m && !decide (m = k)) (fun m => lk m || decide (m = k)) s1 a1 s2 a2 f g k3 (fun m hm => ?_) (fun m hm => ?_) ?_ (by omega) (by omega)
      · rw [k4]
        by_cases e : m = k
        · rw [e, upd_at, decide_eq_true rfl, Bool.or_true]; rfl
        · rw [upd_ne _ _ e, h9 m hm, decide_eq_false e, Bool.or_false]
      · show (rem m && !decide (m = k)) = (P m && !(lk m || decide (m = k)))
        rw [hrem m hm, Bool.not_or, Bool.and_assoc]
      · have := cb_lt (p := fun m => rem m && !decide (m = k)) (q := rem) (n := 20) (c0 := k) (fun m _ q => by rw [Bool.and_eq_true] at q; exact q.1) (by omega) (by simp) hrk
        omega
theorem go0 {nc nt fu : Nat} {x : jAx} {mem : Nat → Nat → Bool} {P E : Nat → Bool} {c : Nat} (hc : c < nc) {s : jS} {a : jB} {s' : jS} {a' : jB} (hR : RI nc nt fu x mem P E s a s' a') :
    ∃ s1 a1 s2 a2, m_XO_searchUp s a (nI c) = some (s1, a1) ∧ m_M_go s' a' (nI c) 0 = some (s2, a2) ∧ RI nc nt fu x mem P E s1 a1 s2 a2 := by
  unfold m_XO_searchUp m_M_go
  obtain ⟨g, g0, g1⟩ := M_goclear s' a' (fun s1 a2 => jb (m_M_nextFor s1 a2 (nI c) 0) (fun v6 => L_M_go_28 (nI c) 0 (fun s19 a20 => some (s19, a20)) jF s1 a2 v6))
  rw [g1, show s 9 = bs P 20 from hR.2.2.2.2.2.2.1]
  exact search0 hc 20 0 rfl P (fun _ => false) s a s' (va_up a' 9 g) jF jF (RI_9 hR g) (fun k hk => by rw [up_self, g0 k hk]; rfl) (fun k _ => by simp) (cb_le _ _) (by decide) (by decide)
theorem sort_both {nc nt fu : Nat} {x : jAx} {mem : Nat → Nat → Bool} (kX : jS → jB → Option (Int32 × jS × jB)) (kM : jS → jB → Option (Int32 × jS × jB)) : ∀ (d k : Nat), k + d = nc → ∀ (P E : Nat → Bool) (s : jS) (a : jB) (s' : jS) (a' : jB) (f g : Nat), RI nc nt fu x mem P E s a s' a' → (∀ c, P c = true → c < k) → (∀ c, c < k → E c = !P c) → (∀ c, E c = true → c < k) → d < f → d < g →
    ∃ P' E' s1 a1 s2 a2, L_XO_sort_17 (nI nc) kX f s a (nI k) = kX s1 a1 ∧ L_M_run_28 kM g s' a' (nI k) = kM s2 a2 ∧ RI nc nt fu x mem P' E' s1 a1 s2 a2 ∧ (∀ c, c < nc → E' c = !P' c) ∧ ∀ c, E' c = true → c < nc := by
  intro d
  induction d with
  | zero =>
    intro k hk P E s a s' a' f g hR h1 h2 h3 hf hg
    obtain ⟨f, rfl⟩ : ∃ m, f = m + 1 := ⟨f - 1, by omega⟩
    obtain ⟨g, rfl⟩ : ∃ m, g = m + 1 := ⟨g - 1, by omega⟩
    have hk : k = nc := by omega
    subst hk
    have c1 := hR.1.1
    rw [L_XO_sort_17, if_pos (j_le (Nat.le_refl _) (by omega)), L_M_run_28, hR.2.2.1.1.1, if_pos (j_le (Nat.le_refl _) (by omega))]
    exact ⟨P, E, s, a, s', a', rfl, rfl, hR, h2, h3⟩
  | succ d ih =>
    intro k hk P E s a s' a' f g hR h1 h2 h3 hf hg
    obtain ⟨f, rfl⟩ : ∃ m, f = m + 1 := ⟨f - 1, by omega⟩
    obtain ⟨g, rfl⟩ : ∃ m, g = m + 1 := ⟨g - 1, by omega⟩
    have c1 := hR.1.1
    have hkn : k < nc := by omega
    obtain ⟨v, s1, a1, s2, a2, k1, k2, k3, -⟩ := answer_both hR hkn (Or.inr rfl)
    have k1 : m_XO_answer s a (nI k) 20 = some (v, s1, a1) := k1
    have k2 : m_M_look s' a' (nI k) 20 = some (bI (decide (v = 1)), s2, a2) := k2
    have hPk : P k = false := by
      cases e : P k with
      | false => rfl
      | true => have := h1 k e; omega
    have hEk : E k = false := by
      cases e : E k with
      | false => rfl
      | true => have := h3 k e; omega
    rw [L_XO_sort_17, if_neg (j_lt hkn (by omega)), if_neg (show ¬ (20 : Int32) ≤ nI k from j_lt (n := 20) (by omega) (by decide)), k1, jb3_s, L_M_run_28, hR.2.2.1.1.1, if_neg (j_lt hkn (by omega)), k2, jb3_s]
    by_cases hv : v = 1
    · rw [if_pos hv, x_bit, jb_s, decide_eq_true hv, if0t, nI_1]
      refine ih (k + 1) (by omega) P (insB E k) _ a1 s2 a2 f g ?_ (fun c q => by have := h1 c q; omega) (fun c q => ?_) (fun c q => ?_) (by omega) (by omega)
      · obtain ⟨hc, hd, he, hf', hg', ⟨p1, p2, p3, p4, p5⟩⟩ := k3
        exact ⟨hc, hd, he, hf', hg', ⟨p1, p2, by show s1 10 ||| b1 k = _; rw [p3, bs_ins20 (by omega)], p4, p5⟩⟩
      · unfold insB
        by_cases e : c = k
        · rw [e, hPk, decide_eq_true rfl, Bool.or_true]; rfl
        · rw [decide_eq_false e, Bool.or_false]; exact h2 c (by omega)
      · unfold insB at q
        rw [Bool.or_eq_true, decide_eq_true_eq] at q
        rcases q with q | q
        · have := h3 c q; omega
        · omega
    · rw [if_neg hv, decide_eq_false hv, if0f]
      obtain ⟨s3, a3, s4, a4, j1, j2, j3⟩ := go1 hkn k3
      obtain ⟨s5, a5, s6, a6, j4, j5, j6⟩ := go0 hkn j3
      rw [j1, jb2_s, j4, jb2_s, x_bit, jb_s, j2, jb2_s, j5, jb2_s, jg_nI (by omega) (by decide), nI_clamp (by omega), nI_1]
      refine ih (k + 1) (by omega) (insB P k) E _ a5 s6 _ f g ?_ (fun c q => ?_) (fun c q => ?_) (fun c q => by have := h3 c q; omega) (by omega) (by omega)
      · obtain ⟨hc, hd, ⟨e1, e2, e3⟩, ⟨f1, f2, f3⟩, ⟨g1, g2⟩, ⟨p1, p2, p3, p4, p5⟩⟩ := j6
        refine ⟨hc, hd, ⟨MA_same e1 rfl rfl (fun p _ _ => by rw [up_ne _ _ (by omega)]), e2, e3⟩, ⟨f1, (fun t c ht hc => by rw [up_ne _ _ (by decide)]; exact f2 t c ht hc), f3⟩, ⟨g1, by rw [up_ne _ _ (by decide)]; exact g2⟩, ⟨p1, ?_, p3, ?_, ?_⟩⟩
        · show s5 9 ||| b1 k = _
          rw [show s5 9 = bs P 20 from p2, bs_ins20 (by omega)]
        · intro c hc
          rw [up_self]
          unfold insB
          by_cases e : c = k
          · rw [e, upd_at, decide_eq_true rfl, Bool.or_true]; rfl
          · rw [upd_ne _ _ e, p4 c hc, decide_eq_false e, Bool.or_false]
        · intro c q
          unfold insB at q
          rw [Bool.or_eq_true, decide_eq_true_eq] at q
          rcases q with q | q
          · exact p5 c q
          · omega
      · unfold insB at q
        rw [Bool.or_eq_true, decide_eq_true_eq] at q
        rcases q with q | q
        · have := h1 c q; omega
        · omega
      · unfold insB
        by_cases e : c = k
        · rw [e, hEk, decide_eq_true rfl, Bool.or_true]; rfl
        · rw [decide_eq_false e, Bool.or_false]; exact h2 c (by omega)
theorem M_runclear (s : jS) (a : jB) (kk : jS → jB → Option (Int32 × jS × jB)) : ∃ g, (∀ n, n < 20 → g n = 0) ∧ L_M_run_7 kk jF s a 0 = kk s (va_up a 8 g) := by
  have key := lp_out0 (fun f (g : Nat → Int32) y => L_M_run_7 kk f s (va_up a 8 g) y) (fun k g => ∀ n, n < k → g n = 0) 20 (fun o => ∃ g, (∀ n, n < 20 → g n = 0) ∧ o = kk s (va_up a 8 g)) (by decide) ?_ ?_ (a 8) ?_
  · rw [up_id] at key; exact key
  · intro f k g hk hI
    left
    refine ⟨upd g k 0, ?_, ?_⟩
    · intro n hn
      by_cases e : n = k
      · rw [e, upd_at]
      · rw [upd_ne _ _ e]; exact hI n (by omega)
    · show L_M_run_7 kk (f + 1) s (va_up a 8 g) (nI k) = _
      rw [L_M_run_7, if_neg (show ¬ (20 : Int32) ≤ nI k from j_lt (n := 20) hk (by decide)), jg_nI hk (by decide), nI_clamp (by omega), up_self, up_up, nI_1]
  · intro f g hI
    refine ⟨g, hI, ?_⟩
    show L_M_run_7 kk (f + 1) s _ (nI 20) = _
    rw [L_M_run_7, if_pos (show (20 : Int32) ≤ nI 20 by decide)]
  · intro n hn; omega
theorem s_run : sim_run Rel := by
  rintro s a s' a' ⟨nc, nt, fu, x, mem, pl, hR⟩
  obtain ⟨⟨c1, c2, c3, c4⟩, ⟨d0, d1, d2, d3, d4, d5, d6, d7⟩, ⟨e1, e2, e3⟩, ⟨f1, f2, f3⟩, ⟨g1, g2⟩, h1⟩ := hR
  unfold m_X_run m_XO_sort m_M_run
  obtain ⟨g, gz, ge⟩ := M_runclear (upd s' 8 0) a' (fun s1 a2 => L_M_run_28 (fun s14 a15 => some (((upd (upd s14 6 (1 : Int32)) 5 (((upd s14 6 (1 : Int32)) 5) + ((upd s14 6 (1 : Int32)) 8))) 8), (upd (upd s14 6 (1 : Int32)) 5 (((upd s14 6 (1 : Int32)) 5) + ((upd s14 6 (1 : Int32)) 8))), a15)) jF s1 a2 0)
  rw [ge, d0]
  have hRI : RI nc nt fu x mem (fun _ => false) (fun _ => false) (upd (upd (upd s 9 0) 10 0) 11 0) a (upd s' 8 0) (va_up a' 8 g) := by
    refine ⟨⟨c1, c2, c3, c4⟩, ⟨d0, d1, d2, d5, d6, d7⟩, ⟨MA_same e1 rfl rfl (fun p _ _ => by rw [up_ne _ _ (by omega)]), e2, e3⟩, ⟨f1, (fun t c ht hc => by rw [up_ne _ _ (by decide)]; exact f2 t c ht hc), f3⟩, ⟨g1, by rw [up_ne _ _ (by decide)]; exact g2⟩, ⟨rfl, ?_, ?_, ?_, fun c q => by cases q⟩⟩
    · show (0 : Int32) = bs (fun _ => false) 20
      decide
    · show (0 : Int32) = bs (fun _ => false) 20
      decide
    · intro c hc; rw [up_self, gz c hc]; rfl
  obtain ⟨P', E', s1, a1, s2, a2, k1, k2, k3, k4, k5⟩ := sort_both (fun s15 a16 => some (s15 11, s15, a16)) (fun s14 a15 => some (((upd (upd s14 6 (1 : Int32)) 5 (((upd s14 6 (1 : Int32)) 5) + ((upd s14 6 (1 : Int32)) 8))) 8), (upd (upd s14 6 (1 : Int32)) 5 (((upd s14 6 (1 : Int32)) 5) + ((upd s14 6 (1 : Int32)) 8))), a15)) nc 0 (by omega) _ _ _ _ _ _ jF jF hRI (fun c q => by cases q) (fun c q => by omega) (fun c q => by cases q) (by unfold jF; omega) (by unfold jF; omega)
  have k1 : L_XO_sort_17 (nI nc) (fun s15 a16 => some (s15 11, s15, a16)) jF (upd (upd (upd s 9 0) 10 0) 11 0) a 0 = some (s1 11, s1, a1) := k1
  rw [k1, jb3_s]
  refine ⟨s1 11, _, _, upd (upd s2 6 1) 5 (s2 5 + s2 8), a2, rfl, k2.trans ?_, ?_⟩
  · show some (s2 8, _, _) = some (s1 11, _, _)
    rw [k3.2.2.2.2.2.1]
    rfl
  · obtain ⟨⟨q1, q2, q3, q4⟩, ⟨r0, r1, r2, r5, r6, r7⟩, ⟨t1, t2, t3⟩, ⟨u1, u2, u3⟩, ⟨w1, w2⟩, ⟨p1, p2, p3, p4, p5⟩⟩ := k3
    refine ⟨nc, nt, fu, x, mem, P', ⟨q1, q2, q3, q4⟩, ⟨r0, r1, ?_, rfl, Or.inr rfl, r5, r6, r7⟩, ⟨MA_same t1 rfl rfl (fun _ _ _ => rfl), t2, t3⟩, ⟨u1, u2, u3⟩, ⟨w1, w2⟩, fun _ => ⟨?_, ?_, ?_⟩⟩
    · show s1 2 + s1 11 = s2 5 + s2 8
      rw [r2, p1]
    · show s1 9 = _
      rw [show s1 9 = bs P' 20 from p2]
      refine bs_eq (by omega) (fun i hi => ?_)
      rw [b_bs _ (by decide), Bool.eq_iff_iff]
      simp only [Bool.and_eq_true, decide_eq_true_eq]
      exact ⟨fun q => ⟨p5 i q.2, q.2⟩, fun q => ⟨by omega, q.2⟩⟩
    · show s1 10 = _
      rw [p3]
      refine bs_eq (by omega) (fun i hi => ?_)
      rw [b_bs _ (by decide), Bool.eq_iff_iff]
      simp only [Bool.and_eq_true, decide_eq_true_eq]
      exact ⟨fun q => ⟨k5 i q.2, by rw [← k4 i (k5 i q.2)]; exact q.2⟩, fun q => ⟨by omega, by rw [k4 i q.1]; exact q.2⟩⟩
    · intro c hc
      rw [p4 c hc]
      congr 1
      rw [Bool.eq_iff_iff]
      simp only [Bool.and_eq_true, decide_eq_true_eq]
      exact ⟨fun q => ⟨p5 c q, q⟩, fun q => q.2⟩

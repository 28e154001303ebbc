/-! the reference: modules, touched, forgetting -/
def Fwd (x : jAx) (G : Nat → Prop) : Prop := ∀ k, k < x.1 → x.2.2.2.2 k = true → (G (x.2.1 k) ∨ (x.2.2.1 k ≠ 20 ∧ G (x.2.2.1 k))) → G (x.2.1 k) ∧ (x.2.2.1 k ≠ 20 → G (x.2.2.1 k)) ∧ G (x.2.2.2.1 k)
def Mdl (x : jAx) (i c : Nat) : Prop := ∀ G : Nat → Prop, Fwd x G → G i → G c
theorem Mdl_fwd (x : jAx) (i : Nat) : Fwd x (Mdl x i) := by
  intro k hk ht h
  have key : ∀ G : Nat → Prop, Fwd x G → G i → G (x.2.1 k) ∧ (x.2.2.1 k ≠ 20 → G (x.2.2.1 k)) ∧ G (x.2.2.2.1 k) := fun G hG h1 => hG k hk ht (by
    rcases h with h | ⟨h0, h⟩
    · exact Or.inl (h G hG h1)
    · exact Or.inr ⟨h0, h G hG h1⟩)
  exact ⟨fun G hG h1 => (key G hG h1).1, fun h0 G hG h1 => (key G hG h1).2.1 h0, fun G hG h1 => (key G hG h1).2.2⟩
/-- touched: the module meets the left -/
theorem Tch_iff {x : jAx} {k0 i : Nat} : Tch x k0 i ↔ (Mdl x i (x.2.1 k0) ∨ (x.2.2.1 k0 ≠ 20 ∧ Mdl x i (x.2.2.1 k0))) := by
  constructor
  · intro h
    refine h (fun c => Mdl x c (x.2.1 k0) ∨ (x.2.2.1 k0 ≠ 20 ∧ Mdl x c (x.2.2.1 k0))) ?_ (Or.inl (fun G _ h => h)) (fun h0 => Or.inr ⟨h0, fun G _ h => h⟩)
    intro k hk ht h1
    -- what one of an axiom's classes reaches its left reaches
    have tr : ∀ c d e, Mdl x c d → Mdl x d e → Mdl x c e := fun c d e h1 h2 G hG hc => h2 G hG (h1 G hG hc)
    have st : ∀ c, (c = x.2.1 k ∨ (x.2.2.1 k ≠ 20 ∧ c = x.2.2.1 k)) → ∀ d, (d = x.2.1 k ∨ (x.2.2.1 k ≠ 20 ∧ d = x.2.2.1 k) ∨ d = x.2.2.2.1 k) → Mdl x c d := by
      intro c hc d hd
      have := Mdl_fwd x c k hk ht (by
        rcases hc with rfl | ⟨h0, rfl⟩
        · exact Or.inl (fun G _ h => h)
        · exact Or.inr ⟨h0, fun G _ h => h⟩)
      rcases hd with rfl | ⟨h0, rfl⟩ | rfl
      · exact this.1
      · exact this.2.1 h0
      · exact this.2.2
    have go : ∀ c, (c = x.2.1 k ∨ (x.2.2.1 k ≠ 20 ∧ c = x.2.2.1 k)) → Mdl x c (x.2.1 k0) ∨ (x.2.2.1 k0 ≠ 20 ∧ Mdl x c (x.2.2.1 k0)) := by
      intro c hc
      rcases h1 with h1 | ⟨h0, h1⟩ | h1
      · exact h1.imp (tr _ _ _ (st c hc _ (Or.inl rfl))) (fun q => ⟨q.1, tr _ _ _ (st c hc _ (Or.inl rfl)) q.2⟩)
      · exact h1.imp (tr _ _ _ (st c hc _ (Or.inr (Or.inl ⟨h0, rfl⟩)))) (fun q => ⟨q.1, tr _ _ _ (st c hc _ (Or.inr (Or.inl ⟨h0, rfl⟩))) q.2⟩)
      · exact h1.imp (tr _ _ _ (st c hc _ (Or.inr (Or.inr rfl)))) (fun q => ⟨q.1, tr _ _ _ (st c hc _ (Or.inr (Or.inr rfl))) q.2⟩)
    exact ⟨go _ (Or.inl rfl), fun h0 => go _ (Or.inr ⟨h0, rfl⟩)⟩
  · intro h T hT h1 h2
    have hf : Fwd x (fun c => ¬ T c) := by
      intro k hk ht hc
      have no : ∀ z, (z = x.2.1 k ∨ (x.2.2.1 k ≠ 20 ∧ z = x.2.2.1 k) ∨ z = x.2.2.2.1 k) → ¬ T z := by
        intro z hz hTz
        have := hT k hk ht (by
          rcases hz with rfl | ⟨h0, rfl⟩ | rfl
          · exact Or.inl hTz
          · exact Or.inr (Or.inl ⟨h0, hTz⟩)
          · exact Or.inr (Or.inr hTz))
        rcases hc with hc | ⟨h0, hc⟩
        · exact hc this.1
        · exact hc (this.2 h0)
      exact ⟨no _ (Or.inl rfl), fun h0 => no _ (Or.inr (Or.inl ⟨h0, rfl⟩)), no _ (Or.inr (Or.inr rfl))⟩
    refine Classical.byContradiction (fun hn => ?_)
    rcases h with h | ⟨h0, h⟩
    · exact h (fun c => ¬ T c) hf hn h1
    · exact h (fun c => ¬ T c) hf hn (h2 h0)
/-- one axiom's turn in the reference's module -/
def onB (x : jAx) (G : Nat → Bool) (k : Nat) : Bool := x.2.2.2.2 k && (G (x.2.1 k) || (!decide (x.2.2.1 k = 20) && G (x.2.2.1 k)))
def aldB (x : jAx) (G : Nat → Bool) (k : Nat) : Bool := G (x.2.1 k) && ((decide (x.2.2.1 k = 20) || G (x.2.2.1 k)) && G (x.2.2.2.1 k))
def addB (x : jAx) (G : Nat → Bool) (k : Nat) : Nat → Bool := fun c => G c || (decide (c = x.2.1 k) || ((!decide (x.2.2.1 k = 20) && decide (c = x.2.2.1 k)) || decide (c = x.2.2.2.1 k)))
theorem upd_b {a14 : Nat → Int32} {G : Nat → Bool} (h : ∀ c, c < 21 → a14 c = bI (G c)) (d : Nat) : ∀ c, c < 21 → upd a14 d 1 c = bI (G c || decide (c = d)) := by
  intro c hc
  unfold upd
  by_cases e : c = d
  · rw [if_pos e]; simp [e, bI]
  · rw [if_neg e, h c hc]; simp [e]
theorem M_mod_turn {s : jS} {a : jB} {nc : Nat} {x : jAx} (hA : MA s a nc x) {G : Nat → Bool} {g : Nat → Int32} (hG : ∀ c, c < 21 → g c = bI (G c)) {k : Nat} (hk : k < x.1) (kk : kO) (f : Nat) (z : Int32) :
    ∃ g', (∀ c, c < 21 → g' c = bI (if onB x G k && !aldB x G k then addB x G k c else G c)) ∧ L_M_isTouched_41 kk (f + 1) s (va_up a 14 g) z (nI k) = L_M_isTouched_41 kk f s (va_up a 14 g') (if onB x G k && !aldB x G k then 1 else z) (nI (k + 1)) := by
  obtain ⟨h1, h2, h3, h4, hkk⟩ := id hA
  obtain ⟨q1, q2, q3, q4, q5, q6, q7⟩ := hkk k hk
  have hr21 := hr_lt h2 q6
  have hl21 : x.2.1 k < 21 := by omega
  rw [L_M_isTouched_41, h3, if_neg (j_lt hk (by omega)), nI_1]
  simp only [jg_nI (show k < 40 by omega) (show 40 < 2 ^ 31 by decide), nI_clamp (show k < 2 ^ 31 by omega), up_ne _ _ (show (1 : Nat) ≠ 14 by decide), up_ne _ _ (show (2 : Nat) ≠ 14 by decide), up_ne _ _ (show (3 : Nat) ≠ 14 by decide), up_ne _ _ (show (4 : Nat) ≠ 14 by decide), up_self, up_up, q1, q3, q5, q7, jg_nI hl21 (show 21 < 2 ^ 31 by decide), jg_nI hr21 (show 21 < 2 ^ 31 by decide), nI_clamp (show x.2.1 k < 2 ^ 31 by omega), nI_clamp (show x.2.2.2.1 k < 2 ^ 31 by omega), hG _ hl21, hG _ hr21, oth_iff (show x.2.2.1 k ≤ 20 by omega), bI_z]
  by_cases e : x.2.2.1 k = 20
  · simp only [if_pos e]
    cases t1 : x.2.2.2.2 k <;> cases t2 : G (x.2.1 k) <;> cases t3 : G (x.2.2.2.1 k) <;> simp [onB, aldB, e, t1, t2, t3, jb_s]
    all_goals first
      | exact ⟨g, hG, rfl⟩
      | (refine ⟨_, ?_, rfl⟩
         intro c hc
         rw [upd_b (upd_b hG _) _ c hc]
         congr 1
         unfold addB
         cases G c <;> simp [e])
  · have ho : x.2.2.1 k < 21 := by omega
    simp only [if_neg e, jg_nI ho (show 21 < 2 ^ 31 by decide), nI_clamp (show x.2.2.1 k < 2 ^ 31 by omega), hG _ ho, bI_z]
    cases t1 : x.2.2.2.2 k <;> cases t2 : G (x.2.1 k) <;> cases t3 : G (x.2.2.2.1 k) <;> cases t4 : G (x.2.2.1 k) <;> simp [onB, aldB, e, t1, t2, t3, t4, jb_s]
    all_goals first
      | exact ⟨g, hG, rfl⟩
      | (refine ⟨_, ?_, rfl⟩
         intro c hc
         rw [upd_b (upd_b (upd_b hG _) _) _ c hc]
         congr 1
         unfold addB
         cases G c <;> simp [e, Bool.or_assoc])
theorem cb_mono {p q : Nat → Bool} {n : Nat} (h : ∀ c, c < n → p c = true → q c = true) : cb p n ≤ cb q n := by
  induction n with
  | zero => exact Nat.le_refl _
  | succ n ih =>
    rw [cb, cb]
    have h1 := ih (fun c hc => h c (by omega))
    by_cases hp : p n = true
    · rw [if_pos hp, if_pos (h n (by omega) hp)]; omega
    · rw [if_neg hp]; split <;> omega
theorem cb_lt {p q : Nat → Bool} {n c0 : Nat} (h : ∀ c, c < n → p c = true → q c = true) (h0 : c0 < n) (h1 : p c0 = false) (h2 : q c0 = true) : cb p n < cb q n := by
  induction n with
  | zero => exact absurd h0 (by omega)
  | succ n ih =>
    rw [cb, cb]
    have hm := cb_mono (fun c hc => h c (by omega) : ∀ c, c < n → p c = true → q c = true)
    by_cases e : c0 = n
    · subst e
      rw [h1, h2]
      simp
      omega
    · have h3 := ih (fun c hc => h c (by omega)) (by omega)
      by_cases hp : p n = true
      · rw [if_pos hp, if_pos (h n (by omega) hp)]; omega
      · rw [if_neg hp]; split <;> omega
/-- one pass of the module's loop -/
def Pss (x : jAx) (i : Nat) (G0 : Nat → Bool) (k : Nat) (st : (Nat → Int32) × Int32) : Prop := ∃ G : Nat → Bool, (∀ c, c < 21 → st.1 c = bI (G c)) ∧ (∀ c, G c = true → Mdl x i c) ∧ (∀ c, G0 c = true → G c = true) ∧ ((st.2 = 0 ∧ G = G0 ∧ ∀ j, j < k → (onB x G0 j && !aldB x G0 j) = false) ∨ (st.2 = 1 ∧ cb G0 21 < cb G 21))
theorem M_mod_pass {s : jS} {a : jB} {nc : Nat} {x : jAx} (hA : MA s a nc x) {i : Nat} {G0 : Nat → Bool} {g0 : Nat → Int32} (h0 : ∀ c, c < 21 → g0 c = bI (G0 c)) (hM : ∀ c, G0 c = true → Mdl x i c) (kk : kO) :
    ∃ st, Pss x i G0 x.1 st ∧ L_M_isTouched_41 kk jF s (va_up a 14 g0) 0 0 = kk s (va_up a 14 st.1) st.2 := by
  obtain ⟨h1, h2, h3, h4, hkk⟩ := id hA
  refine lp_out0 (fun f (st : (Nat → Int32) × Int32) z => L_M_isTouched_41 kk f s (va_up a 14 st.1) st.2 z) (fun k st => Pss x i G0 k st) x.1 (fun o => ∃ st, Pss x i G0 x.1 st ∧ o = kk s (va_up a 14 st.1) st.2) (by omega) ?_ ?_ (g0, 0) ⟨G0, h0, hM, fun _ h => h, Or.inl ⟨rfl, rfl, fun j hj => absurd hj (by omega)⟩⟩
  · intro f k st hk ⟨G, q1, q2, q3, q4⟩
    left
    obtain ⟨b1, b2, b3, b4, b5, b6, b7⟩ := hkk k hk
    have hr21 := hr_lt h2 b6
    obtain ⟨g', r1, r2⟩ := M_mod_turn hA q1 hk kk f st.2
    by_cases c : (onB x G k && !aldB x G k) = true
    · simp only [if_pos c] at r1 r2
      refine ⟨(g', 1), ⟨addB x G k, r1, ?_, ?_, Or.inr ⟨rfl, ?_⟩⟩, r2⟩
      · intro z hz
        simp only [Bool.and_eq_true, Bool.not_eq_true'] at c
        have hon := c.1
        unfold onB at hon
        simp only [Bool.and_eq_true, Bool.or_eq_true, Bool.not_eq_true', decide_eq_false_iff_not] at hon
        have hf := Mdl_fwd x i k hk hon.1 (hon.2.imp (q2 _) (fun w => ⟨w.1, q2 _ w.2⟩))
        unfold addB at hz
        simp only [Bool.or_eq_true, Bool.and_eq_true, Bool.not_eq_true', decide_eq_true_eq, decide_eq_false_iff_not] at hz
        rcases hz with hz | hz | hz | hz
        · exact q2 z hz
        · rw [hz]; exact hf.1
        · rw [hz.2]; exact hf.2.1 hz.1
        · rw [hz]; exact hf.2.2
      · intro z hz
        unfold addB
        rw [q3 z hz]; rfl
      · have sub : ∀ c, c < 21 → G c = true → addB x G k c = true := fun c _ hc => by unfold addB; rw [hc]; rfl
        have hlt : cb G 21 < cb (addB x G k) 21 := by
          simp only [Bool.and_eq_true, Bool.not_eq_true'] at c
          have had := c.2
          unfold aldB at had
          simp only [Bool.and_eq_false_iff, Bool.or_eq_false_iff, decide_eq_false_iff_not] at had
          rcases had with w | w | w
          · exact cb_lt sub (show x.2.1 k < 21 by omega) w (by simp [addB])
          · exact cb_lt sub (show x.2.2.1 k < 21 by omega) w.2 (by simp [addB, w.1])
          · exact cb_lt sub hr21 w (by simp [addB])
        rcases q4 with w | w
        · rw [w.2.1] at hlt ⊢; exact hlt
        · have := w.2; omega
    · simp only [if_neg c] at r1 r2
      refine ⟨(g', st.2), ⟨G, r1, q2, q3, q4.imp (fun w => ⟨w.1, w.2.1, fun j hj => ?_⟩) id⟩, r2⟩
      by_cases e : j = k
      · subst e; rw [w.2.1] at c; exact Bool.eq_false_iff.mpr c
      · exact w.2.2 j (by omega)
  · intro f st hI
    refine ⟨st, hI, ?_⟩
    rw [L_M_isTouched_41, h3, if_pos (j_le (Nat.le_refl _) (by omega))]
theorem M_mod_loop {s : jS} {a : jB} {nc : Nat} {x : jAx} (hA : MA s a nc x) {i : Nat} (kk : jS → jB → Option (Int32 × jS × jB)) :
    ∀ (d f : Nat) (G : Nat → Bool) (g : Nat → Int32), 21 - cb G 21 < d → d + 1 < f → (∀ c, c < 21 → g c = bI (G c)) → (∀ c, G c = true → Mdl x i c) → G i = true →
      ∃ (G' : Nat → Bool) (g' : Nat → Int32), (∀ c, c < 21 → g' c = bI (G' c)) ∧ (∀ c, G' c = true ↔ Mdl x i c) ∧ L_M_isTouched_32 kk f s (va_up a 14 g) 1 = kk s (va_up a 14 g') := by
  intro d
  induction d with
  | zero => intro f G g h; exact absurd h (by omega)
  | succ d ih =>
    intro f G g hd hf hg hM hi
    obtain ⟨f, rfl⟩ : ∃ g, f = g + 1 := ⟨f - 1, by omega⟩
    obtain ⟨st, ⟨G', q1, q2, q3, q4⟩, hE⟩ := M_mod_pass hA hg hM (fun s10 a11 x12 => L_M_isTouched_32 kk f s10 a11 x12)
    rw [L_M_isTouched_32, if_neg (by decide), hE]
    rcases q4 with w | w
    · rw [w.1]
      obtain ⟨f, rfl⟩ : ∃ g, f = g + 1 := ⟨f - 1, by omega⟩
      refine ⟨G', st.1, q1, fun c => ⟨q2 c, fun h => ?_⟩, by rw [L_M_isTouched_32, if_pos rfl]⟩
      rw [w.2.1]
      refine h (fun c => G c = true) ?_ hi
      intro k hk ht h5
      have := w.2.2 k hk
      have hon : onB x G k = true := by
        unfold onB
        simp only [Bool.and_eq_true, Bool.or_eq_true, Bool.not_eq_true', decide_eq_false_iff_not]
        exact ⟨ht, h5⟩
      rw [hon] at this
      have had : aldB x G k = true := by
        cases z : aldB x G k with
        | true => rfl
        | false => rw [z] at this; cases this
      unfold aldB at had
      simp only [Bool.and_eq_true, Bool.or_eq_true, decide_eq_true_eq] at had
      exact ⟨had.1, fun h0 => had.2.1.resolve_left h0, had.2.2⟩
    · rw [w.1]
      have := cb_le G' 21
      exact ih f G' st.1 (by omega) (by omega) q1 q2 (q3 i hi)
theorem M_isTouched {s : jS} {a : jB} {nc : Nat} {x : jAx} (hA : MA s a nc x) {i k0 : Nat} (hi : i < 20) (hk0 : k0 < x.1) :
    ∃ (b : Bool) (g : Nat → Int32), (b = true ↔ Tch x k0 i) ∧ m_M_isTouched s a (nI i) (nI k0) = some (bI b, s, va_up a 14 g) := by
  obtain ⟨h1, h2, h3, h4, hkk⟩ := id hA
  obtain ⟨q1, q2, q3, q4, q5, q6, q7⟩ := hkk k0 hk0
  unfold m_M_isTouched
  have key := lp_out0 (fun f (g : Nat → Int32) z => L_M_isTouched_2 (nI i) (fun s2 a3 => L_M_isTouched_32 (fun s17 a18 => jg (jin (nI k0) 40) (jg (jin ((a18 1) (nI k0).toNatClampNeg) 21) (jb (if ((a18 14) (((a18 1) (nI k0).toNatClampNeg)).toNatClampNeg) = (0 : Int32) then jg (jin (nI k0) 40) ((if ((a18 2) (nI k0).toNatClampNeg) < (0 : Int32) then some (0 : Int32) else jg (jin (nI k0) 40) (jg (jin ((a18 2) (nI k0).toNatClampNeg) 21) ((if ((a18 14) (((a18 2) (nI k0).toNatClampNeg)).toNatClampNeg) = (0 : Int32) then some (0 : Int32) else some (1 : Int32)))))) else some (1 : Int32)) (fun b24 => jg (jz b24) (some (b24, s17, a18)))))) jF s2 a3 (1 : Int32)) f s (va_up a 14 g) z) (fun k g => ∀ c, c < k → g c = bI (oneB i c)) 21 (fun o => ∃ g : Nat → Int32, (∀ c, c < 21 → g c = bI (oneB i c)) ∧ o = L_M_isTouched_32 (fun s17 a18 => jg (jin (nI k0) 40) (jg (jin ((a18 1) (nI k0).toNatClampNeg) 21) (jb (if ((a18 14) (((a18 1) (nI k0).toNatClampNeg)).toNatClampNeg) = (0 : Int32) then jg (jin (nI k0) 40) ((if ((a18 2) (nI k0).toNatClampNeg) < (0 : Int32) then some (0 : Int32) else jg (jin (nI k0) 40) (jg (jin ((a18 2) (nI k0).toNatClampNeg) 21) ((if ((a18 14) (((a18 2) (nI k0).toNatClampNeg)).toNatClampNeg) = (0 : Int32) then some (0 : Int32) else some (1 : Int32)))))) else some (1 : Int32)) (fun b24 => jg (jz b24) (some (b24, s17, a18)))))) jF s (va_up a 14 g) (1 : Int32)) (by decide) ?_ ?_ (a 14) (fun c hc => absurd hc (by omega))
  · obtain ⟨g, hg1, hE⟩ := key
    rw [up_id] at hE
    rw [hE]
    obtain ⟨G', g', r1, r2, r3⟩ := M_mod_loop hA (i := i) (fun s17 a18 => jg (jin (nI k0) 40) (jg (jin ((a18 1) (nI k0).toNatClampNeg) 21) (jb (if ((a18 14) (((a18 1) (nI k0).toNatClampNeg)).toNatClampNeg) = (0 : Int32) then jg (jin (nI k0) 40) ((if ((a18 2) (nI k0).toNatClampNeg) < (0 : Int32) then some (0 : Int32) else jg (jin (nI k0) 40) (jg (jin ((a18 2) (nI k0).toNatClampNeg) 21) ((if ((a18 14) (((a18 2) (nI k0).toNatClampNeg)).toNatClampNeg) = (0 : Int32) then some (0 : Int32) else some (1 : Int32)))))) else some (1 : Int32)) (fun b24 => jg (jz b24) (some (b24, s17, a18)))))) 22 jF (oneB i) g (by omega) (by decide) hg1 (fun c hc G _ hG => by simp only [oneB, decide_eq_true_eq] at hc; rw [hc]; exact hG) (by simp [oneB])
    rw [r3]
    have hl21 : x.2.1 k0 < 21 := by omega
    refine ⟨G' (x.2.1 k0) || (!decide (x.2.2.1 k0 = 20) && G' (x.2.2.1 k0)), g', ?_, ?_⟩
    · rw [Tch_iff, ← r2, ← r2]
      simp
    · simp only [jg_nI (show k0 < 40 by omega) (show 40 < 2 ^ 31 by decide), nI_clamp (show k0 < 2 ^ 31 by omega), up_ne _ _ (show (1 : Nat) ≠ 14 by decide), up_ne _ _ (show (2 : Nat) ≠ 14 by decide), up_self, q1, q3, jg_nI hl21 (show 21 < 2 ^ 31 by decide), nI_clamp (show x.2.1 k0 < 2 ^ 31 by omega), r1 _ hl21, oth_iff (show x.2.2.1 k0 ≤ 20 by omega), bI_z]
      by_cases e : x.2.2.1 k0 = 20
      · simp only [if_pos e]
        cases G' (x.2.1 k0) <;> simp [e, jb_s] <;> rfl
      · have ho : x.2.2.1 k0 < 21 := by omega
        simp only [if_neg e, jg_nI ho (show 21 < 2 ^ 31 by decide), nI_clamp (show x.2.2.1 k0 < 2 ^ 31 by omega), r1 _ ho, bI_z]
        cases G' (x.2.1 k0) <;> cases G' (x.2.2.1 k0) <;> simp [e, jb_s] <;> rfl
  · intro f k g hk hI
    left
    refine ⟨upd g k (bI (oneB i k)), fun c hc => ?_, ?_⟩
    · unfold upd
      split
      · rename_i e; rw [e]
      · exact hI c (by omega)
    · have e : (if nI k = nI i then some (1 : Int32) else some 0) = some (bI (oneB i k)) := by
        by_cases h : k = i
        · subst h; simp [bI, oneB]
        · rw [if_neg (fun q => h ((nI_eq (by omega) (by omega)).mp q))]; simp [bI, oneB, h]
      rw [L_M_isTouched_2, if_neg (by rw [lt20_iff (by omega)]; omega), e, jb_s, jg_nI hk (by decide), nI_clamp (n := k) (by omega), up_self, up_up, nI_1, bI_nar]
  · intro f g hI
    refine ⟨g, hI, ?_⟩
    show L_M_isTouched_2 _ _ (f + 1) s (va_up a 14 g) (nI 21) = _
    rw [L_M_isTouched_2, if_pos (by decide)]
/-- forgetting: the rows of the touched lose one kind and what is OPEN -/
def Fgt (T : Nat → Prop) (v : Int32) (g0 g : Nat → Int32) (P : Nat → Nat → Prop) : Prop := ∀ i j, i < 20 → j < 21 → (P i j ∧ T i ∧ (g0 (21 * i + j) = v ∨ g0 (21 * i + j) = 2) → g (21 * i + j) = 3) ∧ (¬ (P i j ∧ T i ∧ (g0 (21 * i + j) = v ∨ g0 (21 * i + j) = 2)) → g (21 * i + j) = g0 (21 * i + j))
theorem M_forget_row {s : jS} {a : jB} {v : Int32} {i : Nat} (hi : i < 20) (kk : jS → jB → Option (jS × jB)) (g : Nat → Int32) :
    ∃ g', Fgt (fun _ => True) v g g' (fun i' _ => i' = i) ∧ L_M_forget_22 v (nI i) kk jF s (va_up a 6 g) 0 = kk s (va_up a 6 g') := by
  refine lp_out0 (fun f (g : Nat → Int32) z => L_M_forget_22 v (nI i) kk f s (va_up a 6 g) z) (fun k g' => Fgt (fun _ => True) v g g' (fun i' j' => i' = i ∧ j' < k)) 21 (fun o => ∃ g', Fgt (fun _ => True) v g g' (fun i' _ => i' = i) ∧ o = kk s (va_up a 6 g')) (by decide) ?_ ?_ g ?_
  · intro f k g1 hk hI
    left
    have hcur : g1 (21 * i + k) = g (21 * i + k) := (hI i k hi hk).2 (fun q => absurd q.1.2 (by omega))
    have turn : L_M_forget_22 v (nI i) kk (f + 1) s (va_up a 6 g1) (nI k) = L_M_forget_22 v (nI i) kk f s (va_up a 6 (if g1 (21 * i + k) = v ∨ g1 (21 * i + k) = 2 then upd g1 (21 * i + k) 3 else g1)) (nI (k + 1)) := by
      rw [L_M_forget_22, if_neg (by rw [lt20_iff (by omega)]; omega), nI_1]
      simp only [jb_s, jg_pair hi hk, cl_pair hi hk, up_self, up_up]
      by_cases e1 : g1 (21 * i + k) = v
      · rw [if_pos e1, if_pos (Or.inl e1)]
      · by_cases e2 : g1 (21 * i + k) = 2
        · rw [if_neg e1, if_pos e2, if_pos (Or.inr e2)]
        · rw [if_neg e1, if_neg e2, if_neg (fun q => q.elim e1 e2)]
    refine ⟨_, ?_, turn⟩
    intro i' j' hi' hj'
    obtain ⟨p1, p2⟩ := hI i' j' hi' hj'
    rw [hcur]
    by_cases hc : g (21 * i + k) = v ∨ g (21 * i + k) = 2
    · rw [if_pos hc, set2_at g1 3 hk hj']
      by_cases e : i' = i ∧ j' = k
      · rw [if_pos e]
        obtain ⟨rfl, rfl⟩ := e
        exact ⟨fun _ => rfl, fun q => absurd ⟨⟨rfl, by omega⟩, trivial, hc⟩ q⟩
      · rw [if_neg e]
        exact ⟨fun q => p1 ⟨⟨q.1.1, by have := q.1.2; have := q.1.1; omega⟩, q.2⟩, fun q => p2 (fun r => q ⟨⟨r.1.1, by omega⟩, r.2⟩)⟩
    · rw [if_neg hc]
      refine ⟨fun q => p1 ⟨⟨q.1.1, ?_⟩, q.2⟩, fun q => p2 (fun r => q ⟨⟨r.1.1, by omega⟩, r.2⟩)⟩
      by_cases e : j' = k
      · rw [e, q.1.1] at q; exact absurd q.2.2 hc
      · have := q.1.2; omega
  · intro f g1 hI
    refine ⟨g1, fun i' j' hi' hj' => ?_, ?_⟩
    · obtain ⟨p1, p2⟩ := hI i' j' hi' hj'
      exact ⟨fun q => p1 ⟨⟨q.1, hj'⟩, q.2⟩, fun q => p2 (fun r => q ⟨r.1.1, r.2⟩)⟩
    · show L_M_forget_22 v (nI i) kk (f + 1) s (va_up a 6 g1) (nI 21) = _
      rw [L_M_forget_22, if_pos (by decide)]
  · intro i' j' _ _
    exact ⟨fun q => absurd q.1.2 (by omega), fun _ => rfl⟩
theorem up_comm (a : jB) {k j : Nat} (h : k ≠ j) (f g : Nat → Int32) : va_up (va_up a k f) j g = va_up (va_up a j g) k f := by
  funext p
  unfold va_up
  by_cases e1 : p = j
  · rw [if_pos e1, if_neg (by omega), if_pos e1]
  · rw [if_neg e1]
    by_cases e2 : p = k
    · rw [if_pos e2, if_pos e2]
    · rw [if_neg e2, if_neg e2, if_neg e1]
theorem M_forget {s : jS} {a : jB} {nc : Nat} {x : jAx} (hA : MA s a nc x) {k0 : Nat} (hk0 : k0 < x.1) (v : Int32) :
    ∃ g h, Fgt (Tch x k0) v (a 6) g (fun i _ => i < nc) ∧ m_M_forget s a (nI k0) v = some (s, va_up (va_up a 14 h) 6 g) := by
  obtain ⟨h1, h2, h3, h4, hkk⟩ := id hA
  unfold m_M_forget
  have key := lp_out0 (fun f (st : (Nat → Int32) × (Nat → Int32)) z => L_M_forget_2 (nI k0) v (fun s10 a11 => some (s10, a11)) f s (va_up (va_up a 14 st.2) 6 st.1) z) (fun k st => Fgt (Tch x k0) v (a 6) st.1 (fun i' _ => i' < k)) nc (fun o => ∃ g h, Fgt (Tch x k0) v (a 6) g (fun i _ => i < nc) ∧ o = some (s, va_up (va_up a 14 h) 6 g)) (by omega) ?_ ?_ (a 6, a 14) ?_
  · have e : va_up (va_up a 14 (a 14)) 6 (a 6) = a := by rw [up_id, up_id]
    rw [e] at key
    exact key
  · intro f k st hk hI
    left
    have hA' : MA s (va_up (va_up a 14 st.2) 6 st.1) nc x := MA_same hA rfl rfl (fun p _ _ => by rw [up_ne _ _ (by omega), up_ne _ _ (by omega)])
    obtain ⟨b, g14, hb, hE⟩ := M_isTouched hA' (show k < 20 by omega) hk0
    have e14 : va_up (va_up (va_up a 14 st.2) 6 st.1) 14 g14 = va_up (va_up a 14 g14) 6 st.1 := by rw [up_comm _ (by decide), up_up]
    rw [e14] at hE
    have start : L_M_forget_2 (nI k0) v (fun s10 a11 => some (s10, a11)) (f + 1) s (va_up (va_up a 14 st.2) 6 st.1) (nI k) = (if bI b = 0 then L_M_forget_2 (nI k0) v (fun s10 a11 => some (s10, a11)) f s (va_up (va_up a 14 g14) 6 st.1) (nI (k + 1)) else L_M_forget_22 v (nI k) (fun s6 a7 => L_M_forget_2 (nI k0) v (fun s10 a11 => some (s10, a11)) f s6 a7 (nI (k + 1))) jF s (va_up (va_up a 14 g14) 6 st.1) 0) := by
      rw [L_M_forget_2, h1, if_neg (j_lt hk (by omega)), hE, jb3_s, nI_1]
    cases hbb : b with
    | false =>
      rw [hbb] at start
      refine ⟨(st.1, g14), fun i j hi hj => ?_, by rw [start, if_pos (by decide)]⟩
      obtain ⟨p1, p2⟩ := hI i j hi hj
      refine ⟨fun q => p1 ⟨?_, q.2⟩, fun q => p2 (fun r => q ⟨by omega, r.2⟩)⟩
      by_cases e : i = k
      · subst e; rw [hbb] at hb; exact absurd (hb.mpr q.2.1) (by decide)
      · have := q.1; omega
    | true =>
      rw [hbb] at start hb
      obtain ⟨g2, q1, q2⟩ := M_forget_row (s := s) (a := va_up a 14 g14) (v := v) (show k < 20 by omega) (fun s6 a7 => L_M_forget_2 (nI k0) v (fun s10 a11 => some (s10, a11)) f s6 a7 (nI (k + 1))) st.1
      refine ⟨(g2, g14), fun i j hi hj => ?_, by rw [start, if_neg (by decide), q2]⟩
      obtain ⟨p1, p2⟩ := hI i j hi hj
      obtain ⟨r1, r2⟩ := q1 i j hi hj
      by_cases e : i = k
      · subst e
        have hsame : st.1 (21 * i + j) = a 6 (21 * i + j) := p2 (fun q => absurd q.1 (by omega))
        rw [hsame] at r1 r2
        exact ⟨fun q => r1 ⟨rfl, trivial, q.2.2⟩, fun q => r2 (fun z => q ⟨by omega, hb.mp rfl, z.2.2⟩)⟩
      · have r := r2 (fun z => e z.1)
        exact ⟨fun q => r.trans (p1 ⟨by have : i < k + 1 := q.1; show i < k; omega, q.2⟩), fun q => r.trans (p2 (fun z => q ⟨by have : i < k := z.1; show i < k + 1; omega, z.2⟩))⟩
  · intro f st hI
    refine ⟨st.1, st.2, hI, ?_⟩
    rw [L_M_forget_2, h1, if_pos (j_le (Nat.le_refl _) (by omega))]
  · intro i j _ _
    exact ⟨fun q => absurd q.1 (by omega), fun _ => rfl⟩

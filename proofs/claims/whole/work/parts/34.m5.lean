/-! the reasoner, as both sides run it -/
def fstB (p : Nat → Bool) : Nat → Option Nat
  | 0 => none
  | n + 1 => match fstB p n with
    | some k => some k
    | none => if p n = true then some n else none
theorem fstB_spec (p : Nat → Bool) : ∀ n, (∀ k, fstB p n = some k → k < n ∧ p k = true ∧ ∀ j, j < k → p j = false) ∧ (fstB p n = none → ∀ j, j < n → p j = false) := by
  intro n
  induction n with
  | zero => exact ⟨fun k h => by simp [fstB] at h, fun _ j hj => absurd hj (by omega)⟩
  | succ n ih =>
    rw [fstB]
    cases h : fstB p n with
    | some m =>
      obtain ⟨q1, q2, q3⟩ := ih.1 m h
      exact ⟨fun k hk => by cases hk; exact ⟨by omega, q2, q3⟩, fun hk => by cases hk⟩
    | none =>
      have hn := ih.2 h
      by_cases hp : p n = true
      · refine ⟨fun k hk => ?_, fun hk => ?_⟩
        · simp only [hp, if_true, Option.some.injEq] at hk
          subst hk
          exact ⟨by omega, hp, hn⟩
        · simp [hp] at hk
      · refine ⟨fun k hk => by simp [hp] at hk, fun _ j hj => ?_⟩
        by_cases e : j = n
        · subst e; exact Bool.eq_false_iff.mpr hp
        · exact hn j (by omega)
theorem fstB_some {p : Nat → Bool} {n k : Nat} (hk : k < n) (hp : p k = true) (hj : ∀ j, j < k → p j = false) : fstB p n = some k := by
  cases h : fstB p n with
  | none => have := (fstB_spec p n).2 h k hk; rw [hp] at this; cases this
  | some m =>
    obtain ⟨q1, q2, q3⟩ := (fstB_spec p n).1 m h
    have : m = k := by
      rcases Nat.lt_trichotomy m k with z | z | z
      · have := hj m z; rw [q2] at this; cases this
      · exact z
      · have := q3 k z; rw [hp] at this; cases this
    rw [this]
theorem fstB_none {p : Nat → Bool} {n : Nat} (hj : ∀ j, j < n → p j = false) : fstB p n = none := by
  cases h : fstB p n with
  | none => rfl
  | some m =>
    obtain ⟨q1, q2, q3⟩ := (fstB_spec p n).1 m h
    have := hj m q1; rw [q2] at this; cases this
def canB (x : jAx) (F : Nat → Bool) (k : Nat) : Bool := x.2.2.2.2 k && (F (x.2.1 k) && ((decide (x.2.2.1 k = 20) || F (x.2.2.1 k)) && !F (x.2.2.2.1 k)))
def insB (F : Nat → Bool) (c : Nat) : Nat → Bool := fun j => F j || decide (j = c)
def rsn (x : jAx) (goal : Nat) : Nat → (Nat → Bool) → List Nat → Int32 × (Nat → Bool) × List Nat
  | 0, F, l => if F goal || F 20 then (1, F, l) else match fstB (canB x F) x.1 with
    | none => (0, F, l)
    | some _ => (2, F, l)
  | d + 1, F, l => if F goal || F 20 then (1, F, l) else match fstB (canB x F) x.1 with
    | none => (0, F, l)
    | some k => rsn x goal d (insB F (x.2.2.2.1 k)) (l ++ [k])
/-- the axiom that made a class a fact -/
def mkr (x : jAx) (l : List Nat) (c : Nat) : Int32 := match l.find? (fun k => decide (x.2.2.2.1 k = c)) with
  | some k => nI k
  | none => -1
/-- the reference's memory of a run: facts F, fired l -/
def MR (x : jAx) (s : jS) (a : jB) (F : Nat → Bool) (l : List Nat) (s2 : jS) (a2 : jB) : Prop :=
  s2 = upd s 7 (nI l.length) ∧ (∀ p, p ≠ 10 → p ≠ 11 → p ≠ 12 → a2 p = a p) ∧ (∀ c, c < 21 → a2 10 c = bI (F c)) ∧ (∀ c, c < 21 → a2 11 c = mkr x l c) ∧ ∀ j k, l[j]? = some k → a2 12 j = nI k
theorem MA_same {s s2 : jS} {a a2 : jB} {nc : Nat} {x : jAx} (h : MA s a nc x) (e1 : s2 1 = s 1) (e3 : s2 3 = s 3) (e : ∀ p, 1 ≤ p → p ≤ 4 → a2 p = a p) : MA s2 a2 nc x := by
  obtain ⟨h1, h2, h3, h4, hk⟩ := h
  refine ⟨e1.trans h1, h2, e3.trans h3, h4, fun k hkk => ?_⟩
  rw [e 1 (by omega) (by omega), e 2 (by omega) (by omega), e 3 (by omega) (by omega), e 4 (by omega) (by omega)]
  exact hk k hkk
theorem oth_iff {o : Nat} (ho : o ≤ 20) : (if o = 20 then (-1 : Int32) else nI o) < 0 ↔ o = 20 := by
  split
  · simp [*]
  · rename_i q
    simp only [q, iff_false]
    exact nI_pos (by omega)
/-- the search for the least axiom that can fire, from the last on -/
theorem M_next {s : jS} {a : jB} {nc : Nat} {x : jAx} (hA : MA s a nc x) {F : Nat → Bool} (hF : ∀ c, c < 21 → a 10 c = bI (F c)) (kk : Int32 → Option (Int32 × jS × jB)) :
    L_M_reason_54 s a kk jF (-1) (s 3 - 1) = kk (match fstB (canB x F) x.1 with | some k => nI k | none => -1) := by
  obtain ⟨h1, h2, h3, h4, hk⟩ := id hA
  rw [h3, dn_sub]
  refine lp_dn (fun f (st : Int32) z => L_M_reason_54 s a kk f st z) (fun k st => k ≤ x.1 ∧ ((st = -1 ∧ ∀ j, k ≤ j → j < x.1 → canB x F j = false) ∨ ∃ m, st = nI m ∧ k ≤ m ∧ m < x.1 ∧ canB x F m = true ∧ ∀ j, k ≤ j → j < m → canB x F j = false)) (fun o => o = kk (match fstB (canB x F) x.1 with | some k => nI k | none => -1)) ?_ ?_ x.1 jF (-1) (by unfold jF; omega) ⟨Nat.le_refl _, Or.inl ⟨rfl, fun j h5 h6 => absurd h6 (by omega)⟩⟩
  · intro f k st ⟨hle, hI⟩
    left
    obtain ⟨q1, q2, q3, q4, q5, q6, q7⟩ := hk k (by omega)
    have hr21 := hr_lt h2 q6
    have turn : L_M_reason_54 s a kk (f + 1) st (nI k) = L_M_reason_54 s a kk f (if canB x F k then nI k else st) (dn k) := by
      rw [L_M_reason_54, if_neg (nI_pos (by omega)), dn_add]
      simp only [jg_nI (show k < 40 by omega) (show 40 < 2 ^ 31 by decide), nI_clamp (show k < 2 ^ 31 by omega), q1, q3, q5, q7, jg_nI (show x.2.1 k < 21 by omega) (show 21 < 2 ^ 31 by decide), jg_nI hr21 (show 21 < 2 ^ 31 by decide), nI_clamp (show x.2.1 k < 2 ^ 31 by omega), nI_clamp (show x.2.2.2.1 k < 2 ^ 31 by omega), hF _ (show x.2.1 k < 21 by omega), hF _ hr21, oth_iff (show x.2.2.1 k ≤ 20 by omega), bI_z]
      have ho : x.2.2.1 k ≠ 20 → (jg (jin (if x.2.2.1 k = 20 then (-1 : Int32) else nI (x.2.2.1 k)) 21) (if (a 10) ((if x.2.2.1 k = 20 then (-1 : Int32) else nI (x.2.2.1 k))).toNatClampNeg = 0 then some (0 : Int32) else if F (x.2.2.2.1 k) = false then some 1 else some 0)) = (if F (x.2.2.1 k) = false then some (0 : Int32) else if F (x.2.2.2.1 k) = false then some 1 else some 0) := by
        intro e
        simp only [if_neg e]
        rw [jg_nI (show x.2.2.1 k < 21 by omega) (by decide), nI_clamp (by omega), hF _ (by omega)]
        simp only [bI_z]
      unfold canB
      by_cases e : x.2.2.1 k = 20
      · simp only [if_pos e]
        cases x.2.2.2.2 k <;> cases F (x.2.1 k) <;> cases F (x.2.2.2.1 k) <;> simp [e, jb_s]
      · rw [ho e]
        simp only [if_neg e]
        cases x.2.2.2.2 k <;> cases F (x.2.1 k) <;> cases F (x.2.2.1 k) <;> cases F (x.2.2.2.1 k) <;> simp [e, jb_s]
    refine ⟨_, ?_, turn⟩
    refine ⟨by omega, ?_⟩
    by_cases c : canB x F k = true
    · rw [if_pos c]
      exact Or.inr ⟨k, rfl, Nat.le_refl _, by omega, c, fun j h5 h6 => absurd h6 (by omega)⟩
    · rw [if_neg c]
      have c := Bool.eq_false_iff.mpr c
      rcases hI with ⟨z1, z2⟩ | ⟨m, z1, z2, z3, z4, z5⟩
      · refine Or.inl ⟨z1, fun j h5 h6 => ?_⟩
        by_cases e : j = k
        · subst e; exact c
        · exact z2 j (by omega) h6
      · refine Or.inr ⟨m, z1, by omega, z3, z4, fun j h5 h6 => ?_⟩
        by_cases e : j = k
        · subst e; exact c
        · exact z5 j (by omega) h6
  · intro f st ⟨_, hI⟩
    rw [L_M_reason_54, if_pos (by decide)]
    rcases hI with ⟨z1, z2⟩ | ⟨m, z1, z2, z3, z4, z5⟩
    · rw [fstB_none (fun j hj => z2 j (by omega) hj), z1]
    · rw [fstB_some z3 z4 (fun j hj => z5 j (by omega) hj), z1]
/-- what the fired have done -/
def Lok (x : jAx) (F : Nat → Bool) (l : List Nat) : Prop := ∀ k, k ∈ l → k < x.1 ∧ F (x.2.2.2.1 k) = true
theorem mkr_add {x : jAx} {F : Nat → Bool} {l : List Nat} {k : Nat} (hl : Lok x F l) (hk : F (x.2.2.2.1 k) = false) (c : Nat) : mkr x (l ++ [k]) c = if c = x.2.2.2.1 k then nI k else mkr x l c := by
  unfold mkr
  rw [List.find?_append]
  by_cases e : c = x.2.2.2.1 k
  · have h1 : l.find? (fun k => decide (x.2.2.2.1 k = c)) = none := by
      rw [List.find?_eq_none]
      intro m hm q
      simp only [decide_eq_true_eq] at q
      have := (hl m hm).2
      rw [q, e, hk] at this
      cases this
    rw [h1, if_pos e]
    simp [e]
  · rw [if_neg e]
    cases h1 : l.find? (fun k => decide (x.2.2.2.1 k = c)) with
    | some m => simp
    | none =>
      have e' : ¬ x.2.2.2.1 k = c := fun q => e q.symm
      simp [e']
theorem M_reason26 {s : jS} {a : jB} {nc : Nat} {x : jAx} (hA : MA s a nc x) {fu goal : Nat} (hfu : s 4 = nI fu) (hf20 : fu ≤ 20) (hg : goal < 21) :
    ∀ (d : Nat) (F : Nat → Bool) (l : List Nat) (s1 : jS) (a1 : jB) (f : Nat), MR x s a F l s1 a1 → l.length + d = fu → d < f → Lok x F l →
      ∃ s2 a2, L_M_reason_26 (nI goal) (fun s11 a12 => some (1, s11, a12)) f s1 a1 = some ((rsn x goal d F l).1, s2, a2) ∧ MR x s a (rsn x goal d F l).2.1 (rsn x goal d F l).2.2 s2 a2 ∧ Lok x (rsn x goal d F l).2.1 (rsn x goal d F l).2.2 := by
  intro d
  induction d with
  | zero =>
    intro F l s1 a1 f hM hlen hf hl
    obtain ⟨f, rfl⟩ : ∃ g, f = g + 1 := ⟨f - 1, by omega⟩
    obtain ⟨m1, m2, m3, m4, m5⟩ := id hM
    have hA1 : MA s1 a1 nc x := MA_same hA (by rw [m1]; rfl) (by rw [m1]; rfl) (fun p _ _ => m2 p (by omega) (by omega) (by omega))
    rw [L_M_reason_26, jg_nI hg (by decide), nI_clamp (by omega), m3 _ hg, show (20 : Int32) = nI 20 from rfl, jg_nI (show 20 < 21 by decide) (by decide), nI_clamp (by decide), m3 20 (by decide), M_next hA1 m3, rsn]
    simp only [bI_z]
    have hs7 : s1 7 = s1 4 := by rw [m1]; show upd s 7 (nI l.length) 7 = upd s 7 (nI l.length) 4; rw [show upd s 7 (nI l.length) 4 = s 4 from rfl, hfu, ← hlen]; rfl
    cases h1 : F goal with
    | true => exact ⟨s1, a1, by simp, by simpa [h1] using hM, by simpa [h1] using hl⟩
    | false =>
      cases h2 : F 20 with
      | true => exact ⟨s1, a1, by simp, by simpa [h1, h2] using hM, by simpa [h1, h2] using hl⟩
      | false =>
        cases h3 : fstB (canB x F) x.1 with
        | none => exact ⟨s1, a1, by simp, by simpa [h1, h2, h3] using hM, by simpa [h1, h2, h3] using hl⟩
        | some k =>
          obtain ⟨q1, q2, q3⟩ := (fstB_spec _ _).1 k h3
          have := hA.2.2.2.1
          refine ⟨s1, a1, ?_, by simpa [h1, h2, h3] using hM, by simpa [h1, h2, h3] using hl⟩
          simp [nI_pos' (show k < 2 ^ 31 by omega), hs7]
  | succ d ih =>
    intro F l s1 a1 f hM hlen hf hl
    obtain ⟨f, rfl⟩ : ∃ g, f = g + 1 := ⟨f - 1, by omega⟩
    obtain ⟨m1, m2, m3, m4, m5⟩ := id hM
    have hA1 : MA s1 a1 nc x := MA_same hA (by rw [m1]; rfl) (by rw [m1]; rfl) (fun p _ _ => m2 p (by omega) (by omega) (by omega))
    rw [L_M_reason_26, jg_nI hg (by decide), nI_clamp (by omega), m3 _ hg, show (20 : Int32) = nI 20 from rfl, jg_nI (show 20 < 21 by decide) (by decide), nI_clamp (by decide), m3 20 (by decide), M_next hA1 m3, rsn]
    simp only [bI_z]
    have hs7 : s1 7 = nI l.length := by rw [m1]; rfl
    have hs4 : s1 4 = nI fu := by rw [m1]; exact hfu
    cases h1 : F goal with
    | true => exact ⟨s1, a1, by simp, by simpa [h1] using hM, by simpa [h1] using hl⟩
    | false =>
      cases h2 : F 20 with
      | true => exact ⟨s1, a1, by simp, by simpa [h1, h2] using hM, by simpa [h1, h2] using hl⟩
      | false =>
        cases h3 : fstB (canB x F) x.1 with
        | none => exact ⟨s1, a1, by simp, by simpa [h1, h2, h3] using hM, by simpa [h1, h2, h3] using hl⟩
        | some k =>
          obtain ⟨q1, q2, q3⟩ := (fstB_spec _ _).1 k h3
          have hna := hA.2.2.2.1
          obtain ⟨r1, r2, r3, r4, r5, r6, r7⟩ := hA1.2.2.2.2 k q1
          have hr21 := hr_lt hA.2.1 r6
          have hFk : F (x.2.2.2.1 k) = false := by
            unfold canB at q2
            simp only [Bool.and_eq_true, Bool.not_eq_true'] at q2
            exact q2.2.2.2
          have hne : ¬ nI l.length = nI fu := by rw [nI_eq (by omega) (by omega)]; omega
          have hM' : MR x s a (insB F (x.2.2.2.1 k)) (l ++ [k]) (upd s1 7 (nI l.length + 1)) (va_up (va_up (va_up a1 12 (upd (a1 12) l.length (nI k))) 10 (upd (a1 10) (x.2.2.2.1 k) 1)) 11 (upd (a1 11) (x.2.2.2.1 k) (nI k))) := by
            refine ⟨?_, ?_, ?_, ?_, ?_⟩
            · funext j
              rw [m1, nI_1]
              unfold upd
              simp only [List.length_append, List.length_cons, List.length_nil, Nat.zero_add]
              by_cases e : j = 7
              · rw [if_pos e, if_pos e]
              · rw [if_neg e, if_neg e, if_neg e]
            · intro p h5 h6 h7
              rw [up_ne _ _ h6, up_ne _ _ h5, up_ne _ _ h7]
              exact m2 p h5 h6 h7
            · intro c hc
              rw [up_ne _ _ (show (10 : Nat) ≠ 11 by decide), up_self]
              unfold upd insB
              by_cases e : c = x.2.2.2.1 k
              · rw [if_pos e, e]; simp [bI]
              · rw [if_neg e, m3 c hc]; simp [e]
            · intro c hc
              rw [up_self, mkr_add hl hFk]
              unfold upd
              rw [m4 c hc]
            · intro j m hj
              rw [up_ne _ _ (show (12 : Nat) ≠ 11 by decide), up_ne _ _ (show (12 : Nat) ≠ 10 by decide), up_self]
              unfold upd
              by_cases e : j = l.length
              · subst e
                rw [if_pos rfl]
                simp at hj
                rw [hj]
              · rw [if_neg e]
                have hlt : j < (l ++ [k]).length := (List.getElem?_eq_some_iff.mp hj).1
                simp at hlt
                rw [List.getElem?_append_left (by omega)] at hj
                exact m5 j m hj
          have hl' : Lok x (insB F (x.2.2.2.1 k)) (l ++ [k]) := by
            intro m hm
            rcases List.mem_append.mp hm with h | h
            · exact ⟨(hl m h).1, by unfold insB; rw [(hl m h).2]; rfl⟩
            · simp only [List.mem_singleton] at h
              subst h
              exact ⟨q1, by simp [insB]⟩
          obtain ⟨s2, a2, e1, e2, e3⟩ := ih (insB F (x.2.2.2.1 k)) (l ++ [k]) _ _ f hM' (by simp; omega) (by omega) hl'
          refine ⟨s2, a2, ?_, by simpa [h1, h2, h3] using e2, by simpa [h1, h2, h3] using e3⟩
          simp only [if_pos rfl, if_true, nI_pos' (show k < 2 ^ 31 by omega), hs7, hs4, hne, if_false, jg_nI (show l.length < 40 by omega) (show 40 < 2 ^ 31 by decide), jg_nI (show k < 40 by omega) (show 40 < 2 ^ 31 by decide), nI_clamp (show l.length < 2 ^ 31 by omega), nI_clamp (show k < 2 ^ 31 by omega), up_ne _ _ (show (3 : Nat) ≠ 12 by decide), up_ne _ _ (show (3 : Nat) ≠ 10 by decide), up_ne _ _ (show (10 : Nat) ≠ 12 by decide), up_ne _ _ (show (11 : Nat) ≠ 10 by decide), up_ne _ _ (show (11 : Nat) ≠ 12 by decide), r5, jg_nI hr21 (show 21 < 2 ^ 31 by decide), nI_clamp (show x.2.2.2.1 k < 2 ^ 31 by omega)]
          simp [e1]
theorem M_reason {s : jS} {a : jB} {nc : Nat} {x : jAx} (hA : MA s a nc x) {fu goal : Nat} (hfu : s 4 = nI fu) (hf20 : fu ≤ 20) (hg : goal < 21) {F : Nat → Bool} (hF : ∀ c, c < 21 → a 10 c = bI (F c)) :
    ∃ s2 a2, m_M_reason s a (nI goal) = some ((rsn x goal fu F []).1, s2, a2) ∧ MR x s a (rsn x goal fu F []).2.1 (rsn x goal fu F []).2.2 s2 a2 ∧ Lok x (rsn x goal fu F []).2.1 (rsn x goal fu F []).2.2 := by
  unfold m_M_reason
  have key := lp_out0 (fun f (g : Nat → Int32) z => L_M_reason_7 (fun s1 a2 => L_M_reason_26 (nI goal) (fun s11 a12 => some (1, s11, a12)) jF s1 a2) f (upd s 7 0) (va_up a 11 g) z) (fun k g => ∀ c, c < k → g c = -1) 21 (fun o => ∃ g : Nat → Int32, (∀ c, c < 21 → g c = -1) ∧ o = L_M_reason_26 (nI goal) (fun s11 a12 => some (1, s11, a12)) jF (upd s 7 0) (va_up a 11 g)) (by decide) ?_ ?_ (a 11) (fun c hc => absurd hc (by omega))
  · obtain ⟨g, hg1, hE⟩ := key
    rw [up_id] at hE
    rw [hE]
    refine M_reason26 hA hfu hf20 hg fu F [] (upd s 7 0) (va_up a 11 g) jF ⟨rfl, ?_, ?_, ?_, ?_⟩ (by simp) (by unfold jF; omega) (fun k hk => absurd hk List.not_mem_nil)
    · intro p _ h6 _; exact up_ne _ _ h6
    · intro c hc; rw [up_ne _ _ (show (10 : Nat) ≠ 11 by decide)]; exact hF c hc
    · intro c hc; rw [up_self, hg1 c hc]; rfl
    · intro j k hj; simp at hj
  · intro f k g hk hI
    left
    refine ⟨upd g k (-1), fun c hc => ?_, ?_⟩
    · unfold upd
      split
      · rfl
      · exact hI c (by omega)
    · rw [L_M_reason_7, if_neg (by rw [lt20_iff (by omega)]; omega), jg_nI hk (by decide), nI_clamp (by omega), up_self, up_up, nI_1]
  · intro f g hI
    refine ⟨g, hI, ?_⟩
    show L_M_reason_7 _ (f + 1) (upd s 7 0) (va_up a 11 g) (nI 21) = _
    rw [L_M_reason_7, if_pos (by decide)]

/-! the reference: questions -/
theorem MR_up {x : jAx} {s : jS} {a : jB} {g : Nat → Int32} {F : Nat → Bool} {l : List Nat} {s2 : jS} {a2 : jB} (h : MR x s (va_up a 10 g) F l s2 a2) : MR x s a F l s2 a2 := by
  obtain ⟨h1, h2, h3, h4, h5⟩ := h
  exact ⟨h1, fun p q1 q2 q3 => by rw [h2 p q1 q2 q3, up_ne _ _ q1], h3, h4, h5⟩
/-- the start is a class alone -/
def oneB (i : Nat) : Nat → Bool := fun c => decide (c = i)
theorem M_reasonAlone {s : jS} {a : jB} {nc : Nat} {x : jAx} (hA : MA s a nc x) {fu i goal : Nat} (hfu : s 4 = nI fu) (hf20 : fu ≤ 20) (hi : i < 21) (hg : goal < 21) :
    ∃ s2 a2, m_M_reasonAlone s a (nI i) (nI goal) = some ((rsn x goal fu (oneB i) []).1, s2, a2) ∧ MR x s a (rsn x goal fu (oneB i) []).2.1 (rsn x goal fu (oneB i) []).2.2 s2 a2 ∧ Lok x (rsn x goal fu (oneB i) []).2.1 (rsn x goal fu (oneB i) []).2.2 := by
  unfold m_M_reasonAlone
  have key := lp_out0 (fun f (g : Nat → Int32) z => L_M_reasonAlone_2 (nI i) (fun s2 a3 => jb3 (m_M_reason s2 a3 (nI goal)) (fun v8 s6 a7 => some (v8, s6, a7))) f s (va_up a 10 g) z) (fun k g => ∀ c, c < k → g c = bI (oneB i c)) 21 (fun o => ∃ g : Nat → Int32, (∀ c, c < 21 → g c = bI (oneB i c)) ∧ o = jb3 (m_M_reason s (va_up a 10 g) (nI goal)) (fun v8 s6 a7 => some (v8, s6, a7))) (by decide) ?_ ?_ (a 10) (fun c hc => absurd hc (by omega))
  · obtain ⟨g, hg1, hE⟩ := key
    rw [up_id] at hE
    rw [hE]
    obtain ⟨s2, a2, e1, e2, e3⟩ := M_reason (a := va_up a 10 g) (MA_same hA rfl rfl (fun p _ _ => up_ne _ _ (by omega))) hfu hf20 hg (F := oneB i) (fun c hc => by rw [up_self]; exact hg1 c hc)
    exact ⟨s2, a2, by rw [e1]; rfl, MR_up e2, e3⟩
  · intro f k g hk hI
    left
    refine ⟨upd g k (bI (oneB i k)), fun c hc => ?_, ?_⟩
    · unfold upd
      split
      · rename_i e; rw [e]
      · exact hI c (by omega)
    · have e : (if nI k = nI i then some (1 : Int32) else some 0) = some (bI (oneB i k)) := by
        by_cases h : k = i
        · subst h; simp [bI, oneB]
        · rw [if_neg (fun q => h ((nI_eq (by omega) (by omega)).mp q))]; simp [bI, oneB, h]
      rw [L_M_reasonAlone_2, if_neg (by rw [lt20_iff (by omega)]; omega), e, jb_s, jg_nI hk (by decide), nI_clamp (by omega), up_self, up_up, nI_1, bI_nar]
  · intro f g hI
    refine ⟨g, hI, ?_⟩
    show L_M_reasonAlone_2 _ _ (f + 1) s (va_up a 10 g) (nI 21) = _
    rw [L_M_reasonAlone_2, if_pos (by decide)]
/-- the start is a thing's classes: member, as a Boolean table -/
def memB (mem : Nat → Nat → Bool) (t : Nat) : Nat → Bool := fun c => decide (c < 20) && mem t c
def MM (a : jB) (mem : Nat → Nat → Bool) : Prop := ∀ t c, t < 8 → c < 20 → a 5 (20 * t + c) = bI (mem t c)
theorem j_pair20 {i j : Nat} : (20 : Int32) * nI i + nI j = nI (20 * i + j) := by
  rw [show (20 : Int32) = nI 20 from rfl, pk_mul, nI_add]
theorem M_reasonThing {s : jS} {a : jB} {nc : Nat} {x : jAx} (hA : MA s a nc x) {mem : Nat → Nat → Bool} (hm : MM a mem) {fu t goal : Nat} (hfu : s 4 = nI fu) (hf20 : fu ≤ 20) (ht : t < 8) (hg : goal < 21) :
    ∃ s2 a2, m_M_reasonThing s a (nI t) (nI goal) = some ((rsn x goal fu (memB mem t) []).1, s2, a2) ∧ MR x s a (rsn x goal fu (memB mem t) []).2.1 (rsn x goal fu (memB mem t) []).2.2 s2 a2 ∧ Lok x (rsn x goal fu (memB mem t) []).2.1 (rsn x goal fu (memB mem t) []).2.2 := by
  unfold m_M_reasonThing
  have key := lp_out0 (fun f (g : Nat → Int32) z => L_M_reasonThing_2 (nI t) (fun s2 a3 => jb3 (m_M_reason s2 a3 (nI goal)) (fun v8 s6 a7 => some (v8, s6, a7))) f s (va_up a 10 g) z) (fun k g => ∀ c, c < k → g c = bI (memB mem t c)) 21 (fun o => ∃ g : Nat → Int32, (∀ c, c < 21 → g c = bI (memB mem t c)) ∧ o = jb3 (m_M_reason s (va_up a 10 g) (nI goal)) (fun v8 s6 a7 => some (v8, s6, a7))) (by decide) ?_ ?_ (a 10) (fun c hc => absurd hc (by omega))
  · obtain ⟨g, hg1, hE⟩ := key
    rw [up_id] at hE
    rw [hE]
    obtain ⟨s2, a2, e1, e2, e3⟩ := M_reason (a := va_up a 10 g) (MA_same hA rfl rfl (fun p _ _ => up_ne _ _ (by omega))) hfu hf20 hg (F := memB mem t) (fun c hc => by rw [up_self]; exact hg1 c hc)
    exact ⟨s2, a2, by rw [e1]; rfl, MR_up e2, e3⟩
  · intro f k g hk hI
    left
    refine ⟨upd g k (bI (memB mem t k)), fun c hc => ?_, ?_⟩
    · unfold upd
      split
      · rename_i e; rw [e]
      · exact hI c (by omega)
    · have e : (if (20 : Int32) ≤ nI k then some (0 : Int32) else jg (jin ((20 : Int32) * nI t + nI k) 160) (if (va_up a 10 g) 5 ((20 : Int32) * nI t + nI k).toNatClampNeg = 0 then some 0 else some 1)) = some (bI (memB mem t k)) := by
        by_cases h : k < 20
        · rw [if_neg (show ¬ (20 : Int32) ≤ nI k from j_lt (n := 20) h (by decide)), j_pair20, jg_nI (by omega) (by decide), nI_clamp (by omega), up_ne _ _ (by decide), hm t k ht h]
          simp only [bI_z, memB, h, decide_true, Bool.true_and]
          cases mem t k <;> rfl
        · rw [if_pos (show (20 : Int32) ≤ nI k from j_le (n := 20) (by omega) (by omega))]
          simp [memB, h, bI]
      rw [L_M_reasonThing_2, if_neg (by rw [lt20_iff (by omega)]; omega), e, jb_s, jg_nI hk (by decide), nI_clamp (by omega), up_self, up_up, nI_1, bI_nar]
  · intro f g hI
    refine ⟨g, hI, ?_⟩
    show L_M_reasonThing_2 _ _ (f + 1) s (va_up a 10 g) (nI 21) = _
    rw [L_M_reasonThing_2, if_pos (by decide)]
/-- the i-th with p below n; a loop that looks for it -/
def nthI (p : Nat → Bool) (n : Nat) (i : Int32) : Int32 := if i < 0 then -6 else match fstB (fun k => p k && decide (nI (cb p k) = i)) n with
  | some k => nI k
  | none => -6
theorem lp_nth {R : Type} (L : Nat → Int32 → Int32 → Option R) (p : Nat → Bool) (n : Nat) (hn : n < 4096) (i : Int32) (hi : ¬ i < 0) (w : Int32 → Option R)
    (step : ∀ f k z, k < n → L (f + 1) z (nI k) = if p k = true then (if z = 0 then w (nI k) else L f (z - 1) (nI (k + 1))) else L f z (nI (k + 1))) (fin : ∀ f z, L (f + 1) z (nI n) = w (-6)) : L jF i 0 = w (nthI p n i) := by
  obtain ⟨m, hm, rfl⟩ := nI_of hi
  have hcb : ∀ k, k < n → (nI (cb p k) = nI m ↔ cb p k = m) := fun k hk => nI_eq (by have := cb_le p k; omega) hm
  refine lp_out0 (fun f (z : Int32) y => L f z y) (fun k z => cb p k ≤ m ∧ z = nI m - nI (cb p k) ∧ ∀ j, j < k → (p j && decide (nI (cb p j) = nI m)) = false) n (fun o => o = w (nthI p n (nI m))) hn ?_ ?_ (nI m) ⟨by simp [cb], by rw [cb, pk_sub (Nat.zero_le _), Nat.sub_zero], fun j hj => absurd hj (by omega)⟩
  · intro f k z hk ⟨h1, h2, h3⟩
    have hs := step f k z hk
    by_cases hp : p k = true
    · rw [if_pos hp] at hs
      by_cases hz : cb p k = m
      · right
        rw [hs, h2, hz, if_pos (by simp)]
        unfold nthI
        rw [if_neg hi, fstB_some hk (by simp [hp, hz]) h3]
      · left
        refine ⟨z - 1, ⟨?_, ?_, ?_⟩, ?_⟩
        · rw [cb, hp]; simp; omega
        · rw [h2, cb, hp]
          simp only [if_true]
          rw [pk_sub h1, show (1 : Int32) = nI 1 from rfl, pk_sub (by omega), pk_sub (by omega)]
          congr 1
        · intro j hj
          by_cases e : j = k
          · subst e; simp [hcb j hk, hz]
          · exact h3 j (by omega)
        · rw [hs, if_neg]
          rw [h2, pk_sub h1]
          exact nI_ne0 (by omega) (by omega)
    · left
      refine ⟨z, ⟨?_, ?_, ?_⟩, ?_⟩
      · rw [cb]; simp [hp]; exact h1
      · rw [cb]; simp [hp]; exact h2
      · intro j hj
        by_cases e : j = k
        · subst e; simp [hp]
        · exact h3 j (by omega)
      · rw [hs, if_neg hp]
  · intro f z ⟨h1, h2, h3⟩
    show L (f + 1) z (nI n) = _
    rw [fin]
    unfold nthI
    rw [if_neg hi, fstB_none h3]

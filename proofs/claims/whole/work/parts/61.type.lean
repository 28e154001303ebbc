/-! type -/
theorem rsn_mono (x : jAx) (g : Nat) : ∀ (d : Nat) (F : Nat → Bool) (l : List Nat) (c : Nat), F c = true → (rsn x g d F l).2.1 c = true := by
  intro d
  induction d with
  | zero =>
    intro F l c h
    rw [rsn]
    split
    · exact h
    · split <;> exact h
  | succ d ih =>
    intro F l c h
    rw [rsn]
    split
    · exact h
    · split
      · exact h
      · exact ih _ _ c (by unfold insB; rw [h]; rfl)
theorem rsn_goal (x : jAx) (c : Nat) : ∀ (d : Nat) (F : Nat → Bool) (l : List Nat), (rsn x 20 d F l).1 ≠ 1 → ((rsn x c d F l).1 = 1 ↔ (rsn x 20 d F l).2.1 c = true) := by
  intro d
  induction d with
  | zero =>
    intro F l h
    rw [rsn] at h ⊢
    rw [rsn]
    cases h20 : F 20 with
    | true => rw [h20] at h; exact absurd rfl h
    | false =>
      rw [h20] at h
      cases hc : F c with
      | true =>
        simp only [Bool.or_self, Bool.false_eq_true, if_false, Bool.true_or, if_true, true_iff]
        split <;> exact hc
      | false =>
        simp only [Bool.or_self, Bool.false_eq_true, if_false]
        split
        · show (0 : Int32) = 1 ↔ F c = true
          rw [hc]; decide
        · show (2 : Int32) = 1 ↔ F c = true
          rw [hc]; decide
  | succ d ih =>
    intro F l h
    rw [rsn] at h ⊢
    rw [rsn]
    cases h20 : F 20 with
    | true => rw [h20] at h; simp at h
    | false =>
      rw [h20] at h
      simp only [Bool.or_self, Bool.false_eq_true, if_false] at h
      cases hc : F c with
      | true =>
        simp only [Bool.or_self, Bool.false_eq_true, if_false, Bool.true_or, if_true, true_iff]
        split
        · exact hc
        · exact rsn_mono x 20 d _ _ c (by unfold insB; rw [hc]; rfl)
      | false =>
        simp only [Bool.or_self, Bool.false_eq_true, if_false]
        cases hf : fstB (canB x F) x.1 with
        | none => dsimp only; rw [hc]; decide
        | some k =>
          rw [hf] at h
          exact ih _ _ h
theorem lp_nthS {τ R : Type} (L : Nat → τ → Int32 → Int32 → Option R) (G : τ → Prop) (p : Nat → Bool) (n : Nat) (hn : n < 4096) (i : Int32) (hi : ¬ i < 0) (w : τ → Int32 → Option R)
    (step : ∀ f k t z, k < n → G t → ∃ t', G t' ∧ L (f + 1) t z (nI k) = if p k = true then (if z = 0 then w t' (nI k) else L f t' (z - 1) (nI (k + 1))) else L f t' z (nI (k + 1))) (fin : ∀ f t z, G t → L (f + 1) t z (nI n) = w t (-6)) (t : τ) (ht : G t) : ∃ t', G t' ∧ L jF t i 0 = w t' (nthI p n i) := by
  obtain ⟨m, hm, rfl⟩ := nI_of hi
  have hcb : ∀ k, k < n → (nI (cb p k) = nI m ↔ cb p k = m) := fun k hk => nI_eq (by have := cb_le p k; omega) hm
  refine lp_out0 (fun f (st : τ × Int32) y => L f st.1 st.2 y) (fun k st => G st.1 ∧ cb p k ≤ m ∧ st.2 = nI m - nI (cb p k) ∧ ∀ j, j < k → (p j && decide (nI (cb p j) = nI m)) = false) n (fun o => ∃ t', G t' ∧ o = w t' (nthI p n (nI m))) hn ?_ ?_ (t, nI m) ⟨ht, by simp [cb], by rw [cb, pk_sub (Nat.zero_le _), Nat.sub_zero], fun j hj => absurd hj (by omega)⟩
  · intro f k st hk ⟨h0, h1, h2, h3⟩
    obtain ⟨t', g', hs⟩ := step f k st.1 st.2 hk h0
    by_cases hp : p k = true
    · rw [if_pos hp] at hs
      by_cases hz : cb p k = m
      · right
        refine ⟨t', g', ?_⟩
        rw [hs, h2, hz, if_pos (by simp)]
        unfold nthI
        rw [if_neg hi, fstB_some hk (by simp [hp, hz]) h3]
      · left
        refine ⟨(t', st.2 - 1), ⟨g', ?_, ?_, ?_⟩, ?_⟩
        · rw [cb, hp]; simp; omega
        · rw [h2, cb, hp]
          simp only [if_true]
          rw [pk_sub h1, show (1 : Int32) = nI 1 from rfl, pk_sub (by omega), pk_sub (by omega)]
          congr 1
        · intro j hj
          by_cases e : j = k
          · subst e; simp [hcb j hk, hz]
          · exact h3 j (by omega)
        · rw [hs, if_neg]
          rw [h2, pk_sub h1]
          exact nI_ne0 (by omega) (by omega)
    · left
      refine ⟨(t', st.2), ⟨g', ?_, ?_, ?_⟩, ?_⟩
      · rw [cb]; simp [hp]; exact h1
      · rw [cb]; simp [hp]; exact h2
      · intro j hj
        by_cases e : j = k
        · subst e; simp [hp]
        · exact h3 j (by omega)
      · rw [hs, if_neg hp]
  · intro f st ⟨h0, h1, h2, h3⟩
    refine ⟨st.1, h0, ?_⟩
    rw [fin f st.1 st.2 h0]
    unfold nthI
    rw [if_neg hi, fstB_none h3]
/-- the reference's state but for its reasoner's -/
def Fr (s' : jS) (a' : jB) (s : jS) (a : jB) : Prop := (∀ i, i ≠ 7 → s i = s' i) ∧ ∀ p, p ≠ 10 → p ≠ 11 → p ≠ 12 → a p = a' p
theorem Fr_MR {x : jAx} {s' : jS} {a' : jB} {s : jS} {a : jB} (h : Fr s' a' s a) {F : Nat → Bool} {l : List Nat} {s2 : jS} {a2 : jB} (h2 : MR x s a F l s2 a2) : Fr s' a' s2 a2 := by
  refine ⟨fun i hi => ?_, fun p h10 h11 h12 => (h2.2.1 p h10 h11 h12).trans (h.2 p h10 h11 h12)⟩
  rw [h2.1]
  show upd s 7 _ i = _
  unfold upd
  rw [if_neg hi]
  exact h.1 i hi
def inB (x : jAx) (fu : Nat) (F : Nat → Bool) (c : Nat) : Bool := decide ((rsn x c fu F []).1 = 1)
theorem M_isIn {nc : Nat} {x : jAx} {s' : jS} {a' : jB} (hA : MA s' a' nc x) {mem : Nat → Nat → Bool} (hm : MM a' mem) {fu t : Nat} (hfu : s' 4 = nI fu) (hf20 : fu ≤ 20) (ht : t < 8) {s : jS} {a : jB} (hF : Fr s' a' s a) {c : Nat} (hc : c < 21) :
    ∃ s2 a2, m_M_isIn s a (nI t) (nI c) = some (bI (inB x fu (memB mem t) c), s2, a2) ∧ Fr s' a' s2 a2 := by
  have hA1 : MA s a nc x := MA_same hA (hF.1 1 (by decide)) (hF.1 3 (by decide)) (fun p h1 h2 => hF.2 p (by omega) (by omega) (by omega))
  have hm1 : MM a mem := fun t c h1 h2 => by rw [hF.2 5 (by decide) (by decide) (by decide)]; exact hm t c h1 h2
  obtain ⟨s2, a2, k1, k2, k3⟩ := M_reasonThing hA1 hm1 ((hF.1 4 (by decide)).trans hfu) hf20 ht hc
  refine ⟨s2, a2, ?_, Fr_MR hF k2⟩
  unfold m_M_isIn inB
  rw [k1, jb3_s]
  by_cases e : (rsn x c fu (memB mem t) []).1 = 1
  · rw [if_pos e, decide_eq_true e]; rfl
  · rw [if_neg e, decide_eq_false e]; rfl
theorem allB_le {q : Nat → Bool} {n m : Nat} (h : n ≤ m) (h2 : allB q n = false) : allB q m = false := by
  cases e : allB q m with
  | false => rfl
  | true =>
    rw [allB_iff] at e
    have := allB_iff.mpr (fun k hk => e k (Nat.lt_of_lt_of_le hk h))
    rw [h2] at this; cases this
/-- all that type needs of a state -/
def TyH (nc : Nat) (x : jAx) (P : Nat → Bool) (Y : Nat → Nat → Bool) (mem : Nat → Nat → Bool) (fu : Nat) (s' : jS) (a' : jB) : Prop := nc ≤ 20 ∧ MA s' a' nc x ∧ MM a' mem ∧ s' 4 = nI fu ∧ fu ≤ 20 ∧ MB nc Y s' a' ∧ MP P a'
theorem TyH.n {nc : Nat} {x : jAx} {P : Nat → Bool} {Y : Nat → Nat → Bool} {mem : Nat → Nat → Bool} {fu : Nat} {s' : jS} {a' : jB} (h : TyH nc x P Y mem fu s' a') : nc ≤ 20 := h.1
theorem TyH.A {nc : Nat} {x : jAx} {P : Nat → Bool} {Y : Nat → Nat → Bool} {mem : Nat → Nat → Bool} {fu : Nat} {s' : jS} {a' : jB} (h : TyH nc x P Y mem fu s' a') : MA s' a' nc x := h.2.1
theorem TyH.m {nc : Nat} {x : jAx} {P : Nat → Bool} {Y : Nat → Nat → Bool} {mem : Nat → Nat → Bool} {fu : Nat} {s' : jS} {a' : jB} (h : TyH nc x P Y mem fu s' a') : MM a' mem := h.2.2.1
theorem TyH.fu {nc : Nat} {x : jAx} {P : Nat → Bool} {Y : Nat → Nat → Bool} {mem : Nat → Nat → Bool} {fu : Nat} {s' : jS} {a' : jB} (h : TyH nc x P Y mem fu s' a') : s' 4 = nI fu := h.2.2.2.1
theorem TyH.f20 {nc : Nat} {x : jAx} {P : Nat → Bool} {Y : Nat → Nat → Bool} {mem : Nat → Nat → Bool} {fu : Nat} {s' : jS} {a' : jB} (h : TyH nc x P Y mem fu s' a') : fu ≤ 20 := h.2.2.2.2.1
theorem TyH.B {nc : Nat} {x : jAx} {P : Nat → Bool} {Y : Nat → Nat → Bool} {mem : Nat → Nat → Bool} {fu : Nat} {s' : jS} {a' : jB} (h : TyH nc x P Y mem fu s' a') : MB nc Y s' a' := h.2.2.2.2.2.1
theorem TyH.P {nc : Nat} {x : jAx} {P : Nat → Bool} {Y : Nat → Nat → Bool} {mem : Nat → Nat → Bool} {fu : Nat} {s' : jS} {a' : jB} (h : TyH nc x P Y mem fu s' a') : MP P a' := h.2.2.2.2.2.2
theorem TyH.fr {nc : Nat} {x : jAx} {P : Nat → Bool} {Y : Nat → Nat → Bool} {mem : Nat → Nat → Bool} {fu : Nat} {s' : jS} {a' : jB} (h : TyH nc x P Y mem fu s' a') {s : jS} {a : jB} (hF : Fr s' a' s a) : s 1 = nI nc ∧ MB nc Y s a ∧ MP P a := by
  refine ⟨(hF.1 1 (by decide)).trans h.A.1, fun i j hi hj => ?_, fun c hc => by rw [hF.2 8 (by decide) (by decide) (by decide)]; exact h.P c hc⟩
  have := h.B i j hi hj
  rw [M_below (hr_lt h.n hi) (hr_lt h.n hj)] at this ⊢
  rw [hF.2 6 (by decide) (by decide) (by decide)]
  exact this
def lowB (nc : Nat) (P : Nat → Bool) (Y : Nat → Nat → Bool) (I : Nat → Bool) (c k : Nat) : Bool := !((P k && dirB nc P Y k c) && I k)
theorem M_type95 {nc : Nat} {x : jAx} {P : Nat → Bool} {Y : Nat → Nat → Bool} {mem : Nat → Nat → Bool} {fu : Nat} {s' : jS} {a' : jB} (h : TyH nc x P Y mem fu s' a') {t : Nat} (ht : t < 8) {c : Nat} (hc : c < nc) (kk : kO) (b : Bool) {s : jS} {a : jB} (hF : Fr s' a' s a) :
    ∃ s2 a2, Fr s' a' s2 a2 ∧ L_M_type_95 (nI t) (nI c) kk jF s a (bI b) 0 = kk s2 a2 (bI (b && allB (lowB nc P Y (inB x fu (memB mem t)) c) nc)) := by
  have hn := h.n
  refine lp_out0 (fun f (st : jS × jB × Int32) y => L_M_type_95 (nI t) (nI c) kk f st.1 st.2.1 st.2.2 y) (fun k st => Fr s' a' st.1 st.2.1 ∧ st.2.2 = bI (b && allB (lowB nc P Y (inB x fu (memB mem t)) c) k)) nc (fun o => ∃ s2 a2, Fr s' a' s2 a2 ∧ o = kk s2 a2 (bI (b && allB (lowB nc P Y (inB x fu (memB mem t)) c) nc))) (by omega) ?_ ?_ (s, a, bI b) ⟨hF, by simp [allB]⟩
  · rintro f k ⟨s1, a1, z⟩ hk ⟨i1, i2⟩
    have i2 : z = bI (b && allB (lowB nc P Y (inB x fu (memB mem t)) c) k) := i2
    have i1 : Fr s' a' s1 a1 := i1
    obtain ⟨r1, r2, r3⟩ := h.fr i1
    show (∃ st', _ ∧ L_M_type_95 (nI t) (nI c) kk (f + 1) s1 a1 z (nI k) = _) ∨ (∃ s2 a2, _ ∧ L_M_type_95 (nI t) (nI c) kk (f + 1) s1 a1 z (nI k) = _)
    rw [L_M_type_95, r1, if_neg (j_lt hk (by omega)), jg_nI (by omega) (by decide), nI_clamp (by omega), r3 k (by omega), M_isDirect hn r1 r2 r3 (Or.inl hk) hc, jb_s, nI_1]
    cases hb : (b && allB (lowB nc P Y (inB x fu (memB mem t)) c) k) with
    | false =>
      rw [hb] at i2
      rw [i2, if0f]
      right
      refine ⟨s1, a1, i1, ?_⟩
      have : (b && allB (lowB nc P Y (inB x fu (memB mem t)) c) nc) = false := by
        cases b with
        | false => rfl
        | true => exact allB_le (Nat.le_of_lt hk) hb
      rw [this]
    | true =>
      rw [hb] at i2
      rw [i2, if_neg (show ¬ bI true = 0 by decide)]
      left
      have nx : ∀ v, lowB nc P Y (inB x fu (memB mem t)) c k = v → (b && allB (lowB nc P Y (inB x fu (memB mem t)) c) (k + 1)) = v := by
        intro v hv
        rw [allB, ← Bool.and_assoc, hb, hv]; rfl
      cases hp : P k with
      | false =>
        rw [if0f]
        exact ⟨(s1, a1, 1), ⟨i1, by rw [nx true (by unfold lowB; rw [hp]; rfl)]; rfl⟩, rfl⟩
      | true =>
        rw [if0t]
        cases hd : dirB nc P Y k c with
        | false =>
          rw [if0f]
          exact ⟨(s1, a1, 1), ⟨i1, by rw [nx true (by unfold lowB; rw [hd]; simp)]; rfl⟩, rfl⟩
        | true =>
          rw [if0t]
          obtain ⟨s2, a2, k1, k2⟩ := M_isIn h.A h.m h.fu h.f20 ht i1 (show k < 21 by omega)
          rw [k1, jb3_s]
          refine ⟨(s2, a2, bI (!inB x fu (memB mem t) k)), ⟨k2, by rw [nx (!inB x fu (memB mem t) k) (by unfold lowB; rw [hp, hd]; rfl)]⟩, ?_⟩
          cases inB x fu (memB mem t) k <;> rfl
  · rintro f ⟨s1, a1, z⟩ ⟨i1, i2⟩
    refine ⟨s1, a1, i1, ?_⟩
    show L_M_type_95 (nI t) (nI c) kk (f + 1) s1 a1 z (nI nc) = _
    rw [L_M_type_95, show s1 1 = nI nc from (h.fr i1).1, if_pos (j_le (Nat.le_refl _) (by omega))]
    rw [show z = _ from i2]
def typB (nc : Nat) (P : Nat → Bool) (Y : Nat → Nat → Bool) (I : Nat → Bool) (c : Nat) : Bool := (P c && (!secB P Y c && I c)) && allB (lowB nc P Y I c) nc
theorem M_type43 {nc : Nat} {x : jAx} {P : Nat → Bool} {Y : Nat → Nat → Bool} {mem : Nat → Nat → Bool} {fu : Nat} {s' : jS} {a' : jB} (h : TyH nc x P Y mem fu s' a') {t : Nat} (ht : t < 8) (i : Int32) {s : jS} {a : jB} (hF : Fr s' a' s a) :
    ∃ s2 a2, Fr s' a' s2 a2 ∧ L_M_type_43 (nI t) i (fun s37 a38 => some (-6, s37, a38)) jF s a i 0 = some (nthI (typB nc P Y (inB x fu (memB mem t))) nc i, s2, a2) := by
  have hn := h.n
  by_cases hi0 : i < 0
  · refine ⟨s, a, hF, ?_⟩
    unfold nthI
    rw [if_pos hi0]
    show L_M_type_43 (nI t) i _ (4095 + 1) s a i (nI 0) = _
    rw [L_M_type_43, if_pos hi0]
    split <;> rfl
  · have key := lp_nthS (fun f (st : jS × jB) z y => L_M_type_43 (nI t) i (fun s37 a38 => some (-6, s37, a38)) f st.1 st.2 z y) (fun st => Fr s' a' st.1 st.2) (typB nc P Y (inB x fu (memB mem t))) nc (by omega) i hi0 (fun st z => some (z, st.1, st.2)) ?_ ?_ (s, a) hF
    · obtain ⟨st, k1, k2⟩ := key
      exact ⟨st.1, st.2, k1, k2⟩
    · rintro f k ⟨s1, a1⟩ z hk i1
      have i1 : Fr s' a' s1 a1 := i1
      obtain ⟨r1, r2, r3⟩ := h.fr i1
      show ∃ t', _ ∧ L_M_type_43 (nI t) i _ (f + 1) s1 a1 z (nI k) = _
      rw [L_M_type_43, r1, if_neg (j_lt hk (by omega)), if_neg hi0, jg_nI (by omega) (by decide), nI_clamp (by omega), r3 k (by omega), M_isSecond hn r2 r3 hk, jb_s, nI_1]
      cases hp : P k with
      | false =>
        rw [if0f]
        obtain ⟨s2, a2, k1, k2⟩ := M_type95 h ht hk (fun s12 a13 x14 => (if x14 = (0 : Int32) then jb (if x14 = (0 : Int32) then some (0 : Int32) else some (1 : Int32)) (fun b16 => L_M_type_43 (nI t) i (fun s37 a38 => some (-6, s37, a38)) f s12 a13 (z - b16) (nI (k + 1))) else (if z = (0 : Int32) then some (nI k, s12, a13) else jb (if x14 = (0 : Int32) then some (0 : Int32) else some (1 : Int32)) (fun b17 => L_M_type_43 (nI t) i (fun s37 a38 => some (-6, s37, a38)) f s12 a13 (z - b17) (nI (k + 1)))))) false i1
        refine ⟨(s2, a2), k1, k2.trans ?_⟩
        rw [mnth _ z (some (nI k, s2, a2)) (fun q => L_M_type_43 (nI t) i (fun s37 a38 => some (-6, s37, a38)) f s2 a2 q (nI (k + 1)))]
        unfold typB
        rw [hp]; rfl
      | true =>
        rw [if0t]
        cases hsec : secB P Y k with
        | true =>
          rw [if0t]
          obtain ⟨s2, a2, k1, k2⟩ := M_type95 h ht hk (fun s12 a13 x14 => (if x14 = (0 : Int32) then jb (if x14 = (0 : Int32) then some (0 : Int32) else some (1 : Int32)) (fun b16 => L_M_type_43 (nI t) i (fun s37 a38 => some (-6, s37, a38)) f s12 a13 (z - b16) (nI (k + 1))) else (if z = (0 : Int32) then some (nI k, s12, a13) else jb (if x14 = (0 : Int32) then some (0 : Int32) else some (1 : Int32)) (fun b17 => L_M_type_43 (nI t) i (fun s37 a38 => some (-6, s37, a38)) f s12 a13 (z - b17) (nI (k + 1)))))) false i1
          refine ⟨(s2, a2), k1, k2.trans ?_⟩
          rw [mnth _ z (some (nI k, s2, a2)) (fun q => L_M_type_43 (nI t) i (fun s37 a38 => some (-6, s37, a38)) f s2 a2 q (nI (k + 1)))]
          unfold typB
          rw [hp, hsec]; rfl
        | false =>
          rw [if0f]
          obtain ⟨s3, a3, j1, j2⟩ := M_isIn h.A h.m h.fu h.f20 ht i1 (show k < 21 by omega)
          rw [j1, jb3_s]
          rw [show (if bI (inB x fu (memB mem t) k) = (0 : Int32) then some (0 : Int32) else some (1 : Int32)) = some (bI (inB x fu (memB mem t) k)) by cases inB x fu (memB mem t) k <;> rfl, jb_s]
          obtain ⟨s2, a2, k1, k2⟩ := M_type95 h ht hk (fun s12 a13 x14 => (if x14 = (0 : Int32) then jb (if x14 = (0 : Int32) then some (0 : Int32) else some (1 : Int32)) (fun b16 => L_M_type_43 (nI t) i (fun s37 a38 => some (-6, s37, a38)) f s12 a13 (z - b16) (nI (k + 1))) else (if z = (0 : Int32) then some (nI k, s12, a13) else jb (if x14 = (0 : Int32) then some (0 : Int32) else some (1 : Int32)) (fun b17 => L_M_type_43 (nI t) i (fun s37 a38 => some (-6, s37, a38)) f s12 a13 (z - b17) (nI (k + 1)))))) (inB x fu (memB mem t) k) j2
          refine ⟨(s2, a2), k1, k2.trans ?_⟩
          rw [mnth _ z (some (nI k, s2, a2)) (fun q => L_M_type_43 (nI t) i (fun s37 a38 => some (-6, s37, a38)) f s2 a2 q (nI (k + 1)))]
          unfold typB
          rw [hp, hsec]; rfl
    · rintro f ⟨s1, a1⟩ z i1
      show L_M_type_43 (nI t) i _ (f + 1) s1 a1 z (nI nc) = _
      rw [L_M_type_43, show s1 1 = nI nc from (h.fr i1).1, if_pos (j_le (Nat.le_refl _) (by omega))]
theorem allB_congr {p q : Nat → Bool} {n : Nat} (h : ∀ k, k < n → p k = q k) : allB p n = allB q n := by
  induction n with
  | zero => rfl
  | succ n ih => rw [allB, allB, ih (fun k hk => h k (by omega)), h n (by omega)]
theorem any_all {p : Nat → Bool} {n : Nat} : (!anyB p n) = allB (fun k => !p k) n := by
  induction n with
  | zero => rfl
  | succ n ih => rw [anyB, allB, ← ih, Bool.not_or]
theorem s_type : sim_type Rel := by
  rintro s a s' a' p0 p1 ⟨nc, nt, fu, x, mem, pl, hR⟩
  have hR' := hR
  obtain ⟨⟨c1, c2, c3, c4⟩, ⟨d0, d1, d2, d3, d4, d5, d6, d7⟩, ⟨e1, e2, e3⟩, ⟨f1, f2, f3⟩, ⟨g1, g2⟩, h1⟩ := hR'
  have bad : ∀ v : Int32, ∃ r s1 a1 s2 a2, some (v, s, a) = some (r, s1, a1) ∧ some (v, s', a') = some (r, s2, a2) ∧ Rel s1 a1 s2 a2 := fun v => ⟨v, s, a, s', a', rfl, rfl, nc, nt, fu, x, mem, pl, hR⟩
  have hB := MB_of (s' := s') c1 g1 g2
  unfold m_X_type m_M_type
  rw [X_isThing d1 c2, jb_s, e2, ← d3]
  cases ht : jin p0 nt with
  | false =>
    rw [if0f]
    by_cases h0 : p0 < 0
    · rw [if_pos h0]; exact bad _
    · rw [if_neg h0, if_neg]
      · exact bad _
      · rw [nIlt_iff (by omega)]
        rcases jin_f ht with q | q
        · exact absurd ((lt0_iff p0).mpr q) h0
        · omega
  | true =>
    obtain ⟨t, ht0, rfl⟩ := jin_ex (by omega) ht
    rw [if0t, if_neg (nI_pos (by omega)), if_pos (nI_lt ht0 (by omega))]
    by_cases z : s 3 = 0
    · rw [if_pos z, if_pos z]; exact bad _
    rw [if_neg z, if_neg z, jg_nI (by omega) (by decide), nI_clamp (by omega), f1 t (by omega)]
    obtain ⟨h9, h10, h8⟩ := h1 (d4.resolve_left z)
    have hXP := XP_of c1 h9
    have hMP : MP (plP nc pl) a' := h8
    rw [show bs (mem t) 20 = bs (memB mem t) 21 from bs_eq (by decide) (fun i hi => by
      rw [b_bs _ (by decide)]
      unfold memB
      by_cases e : i < 20
      · simp [e]; omega
      · simp [e])]
    obtain ⟨s1, a1, k1, k2⟩ := x_decide c1 c4 d5 d7 c3 (show 20 < 21 by decide) (memB mem t)
    obtain ⟨s2, a2, k3, k4, k5⟩ := M_reasonThing e1 f2 e3 c3 (show t < 8 by omega) (show 20 < 21 by decide)
    rw [show (20 : Int32) = nI 20 from rfl, k1, jb3_s, k3, jb3_s]
    by_cases hv : (rsn x 20 fu (memB mem t) []).1 = 1
    · rw [if_pos hv, if_pos hv]
      exact ⟨_, _, _, _, _, rfl, rfl, nc, nt, fu, x, mem, pl, RelD_ask hR k2 k4⟩
    · rw [if_neg hv, if_neg hv]
      have hT : TyH nc x (plP nc pl) (Yb a) mem fu s' a' := ⟨c1, e1, f2, e3, c3, hB, hMP⟩
      obtain ⟨s3, a3, j1, j2⟩ := M_type43 hT (show t < 8 by omega) p1 (Fr_MR ⟨fun _ _ => rfl, fun _ _ _ _ => rfl⟩ k4)
      rw [j2]
      obtain ⟨m1, m2, m3, m4, m5⟩ := k2
      have y1 : Yb a1 = Yb a := by unfold Yb; rw [m4 7 (by decide)]
      have hs1 : Xs nc a1 := (KI_same (m4 7 (by decide)) (m4 8 (by decide)) (m4 9 (by decide)) (m4 10 (by decide)) g1).1
      have hXP1 : XP (plP nc pl) s1 := by unfold XP; rw [m1 9 (by decide) (by decide)]; exact hXP
      unfold m_XR_facts
      rw [jb_s, m3, x_lowAmong c1 hs1 hXP1 plP_lt (W := (rsn x 20 fu (memB mem t) []).2.1) (fun c hc => by rw [b_bs _ (by decide), decide_eq_true (show c < 21 by omega)]; rfl), jb_s, x_first c1 hs1 hXP1, jb_s, x_pick, jb_s, y1]
      have inF : ∀ c, inB x fu (memB mem t) c = (rsn x 20 fu (memB mem t) []).2.1 c := by
        intro c
        unfold inB
        rw [Bool.eq_iff_iff, decide_eq_true_eq]
        exact rsn_goal x c fu _ [] hv
      refine ⟨_, _, _, _, _, rfl, ?_, nc, nt, fu, x, mem, pl, RelD_frame hR (fun i h7 h8 _ => m1 i h7 h8) m4 (fun i h7 _ => j1.1 i h7) (fun p hp _ => j1.2 p (by omega) (by omega) (by omega))⟩
      congr 2
      rw [nthI_eq (by omega)]
      refine (nthN_ext (n := nc) (m := 21) (by omega) (fun k hk => ?_) (fun k h3 h4 => ?_) _).symm
      · rw [b_bs _ (by decide), decide_eq_true (show k < 20 by omega), Bool.true_and, any_all]
        unfold typB
        rw [inF, allB_congr (q := lowB nc (plP nc pl) (Yb a) (inB x fu (memB mem t)) k) (fun m hm => by unfold lowB; rw [inF])]
        cases plP nc pl k <;> cases (rsn x 20 fu (memB mem t) []).2.1 k <;> cases secB (plP nc pl) (Yb a) k <;> simp
      · rw [b_bs _ (by decide)]
        have hk : plP nc pl k = false := by unfold plP; rw [decide_eq_false (by omega)]; rfl
        rw [hk]; simp

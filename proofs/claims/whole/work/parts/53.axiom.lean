/-! axiom -/
def axTM (s : jS) (a : jB) (p0 : Int32) (p1 : Int32) (p2 : Int32) : Option (Int32 × jS × jB) := (if p1 = p0 then some ((-2 : Int32), s, a) else (if (s 3) = (40 : Int32) then some ((-4 : Int32), s, a) else jg (jin (s 3) 40) (jg (jin (s 3) 40) (jb (if (0 : Int32) ≤ p2 then some p2 else some (20 : Int32)) (fun b3 => jg (jin (s 3) 40) (jg (jin (s 3) 40) (jb2 (m_M_forget (upd (upd s 3 ((s 3) + (1 : Int32))) 6 (0 : Int32)) (va_up (va_up (va_up (va_up a 1 (upd (a 1) ((s 3)).toNatClampNeg p0)) 2 (upd ((va_up a 1 (upd (a 1) ((s 3)).toNatClampNeg p0)) 2) ((s 3)).toNatClampNeg p1)) 3 (upd ((va_up (va_up a 1 (upd (a 1) ((s 3)).toNatClampNeg p0)) 2 (upd ((va_up a 1 (upd (a 1) ((s 3)).toNatClampNeg p0)) 2) ((s 3)).toNatClampNeg p1)) 3) ((s 3)).toNatClampNeg b3)) 4 (upd ((va_up (va_up (va_up a 1 (upd (a 1) ((s 3)).toNatClampNeg p0)) 2 (upd ((va_up a 1 (upd (a 1) ((s 3)).toNatClampNeg p0)) 2) ((s 3)).toNatClampNeg p1)) 3 (upd ((va_up (va_up a 1 (upd (a 1) ((s 3)).toNatClampNeg p0)) 2 (upd ((va_up a 1 (upd (a 1) ((s 3)).toNatClampNeg p0)) 2) ((s 3)).toNatClampNeg p1)) 3) ((s 3)).toNatClampNeg b3)) 4) ((s 3)).toNatClampNeg (1 : Int32))) (((s 3) + (1 : Int32)) - (1 : Int32)) (0 : Int32)) (fun s5 a6 => jb2 (m_M_close s5 a6) (fun s8 a9 => some (((s8 3) - (1 : Int32)), s8, a9))))))))))
def axTX (b1 : Int32) (s : jS) (a : jB) (p0 : Int32) (p1 : Int32) (p2 : Int32) : Option (Int32 × jS × jB) := (if p1 = p0 then some ((-2 : Int32), s, a) else jb (m_XA_isFull s a) (fun v34 => (if v34 = (0 : Int32) then jb (if b1 = (0 : Int32) then jb (m_X_bit p0) (fun v51 => jb (m_X_bit p1) (fun v53 => some (v51 ||| v53))) else jb (m_X_bit p0) (fun v55 => some v55)) (fun b35 => jb (m_X_slot p2) (fun v37 => jb3 (m_XA_add s a b35 v37) (fun v41 s39 a40 => jb (m_XA_touchedBy s39 a40 v41) (fun v43 => jb2 (m_XK_forgetNo s39 a40 v43) (fun s45 a46 => jb2 (m_X_tellAxioms s45 a46) (fun s48 a49 => some (v41, (upd s48 3 (0 : Int32)), a49))))))) else some ((-4 : Int32), s, a))))
theorem axM_eq (s : jS) (a : jB) (p0 p1 p2 : Int32) : m_M_axiom s a p0 p1 p2 = jb (m_M_isClass s a p0) (fun v2 => (if v2 = (0 : Int32) then some ((-1 : Int32), s, a) else (if p1 = (-1 : Int32) then (if p2 = (-1 : Int32) then (axTM s a p0 p1 p2) else jb (m_M_isClass s a p2) (fun v11 => (if v11 = (0 : Int32) then some ((-1 : Int32), s, a) else (axTM s a p0 p1 p2)))) else jb (m_M_isClass s a p1) (fun v20 => (if v20 = (0 : Int32) then some ((-1 : Int32), s, a) else (if p2 = (-1 : Int32) then (axTM s a p0 p1 p2) else jb (m_M_isClass s a p2) (fun v29 => (if v29 = (0 : Int32) then some ((-1 : Int32), s, a) else (axTM s a p0 p1 p2))))))))) := rfl
theorem axX_eq (s : jS) (a : jB) (p0 p1 p2 : Int32) : m_X_axiom s a p0 p1 p2 = jb (if p1 = (-1 : Int32) then some (1 : Int32) else some (0 : Int32)) (fun b1 => jb (m_X_isClass s a p0) (fun v3 => (if v3 = (0 : Int32) then some ((-1 : Int32), s, a) else (if b1 = (0 : Int32) then jb (m_X_isClass s a p1) (fun v30 => (if v30 = (0 : Int32) then some ((-1 : Int32), s, a) else jb (m_X_isGoal s a p2) (fun v32 => (if v32 = (0 : Int32) then some ((-1 : Int32), s, a) else (axTX b1 s a p0 p1 p2))))) else jb (m_X_isGoal s a p2) (fun v5 => (if v5 = (0 : Int32) then some ((-1 : Int32), s, a) else (axTX b1 s a p0 p1 p2))))))) := rfl
theorem if0f {α : Type} (A B : α) : (if bI false = (0 : Int32) then A else B) = A := rfl
theorem if0t {α : Type} (A B : α) : (if bI true = (0 : Int32) then A else B) = B := rfl
theorem X_isClass {s : jS} {a : jB} {nc : Nat} (hs : s 0 = nI nc) (hn : nc ≤ 20) (p : Int32) : m_X_isClass s a p = some (bI (jin p nc)) := by
  unfold m_X_isClass
  rw [hs]
  cases h : jin p nc with
  | true =>
    have := jin_t h
    rw [if_neg (by rw [lt0_iff]; omega), if_neg (by rw [nIle_iff (by omega)]; omega)]
    rfl
  | false =>
    rcases jin_f h with h | h
    · rw [if_pos ((lt0_iff p).mpr h)]; rfl
    · by_cases h0 : p < 0
      · rw [if_pos h0]; rfl
      · rw [if_neg h0, if_pos ((nIle_iff (by omega) p).mpr h)]; rfl
/-- what names a goal -/
def glB (nc : Nat) (p : Int32) : Bool := decide (p = -1) || jin p nc
def Gl (nc : Nat) (p : Int32) (r : Nat) : Prop := (p = -1 ∧ r = 20) ∨ (p = nI r ∧ r < nc)
theorem X_isGoal {s : jS} {a : jB} {nc : Nat} (hs : s 0 = nI nc) (hn : nc ≤ 20) (p : Int32) : m_X_isGoal s a p = some (bI (glB nc p)) := by
  unfold m_X_isGoal glB
  by_cases h : p = -1
  · rw [if_pos h]; simp [h]; rfl
  · rw [if_neg h, X_isClass hs hn, jb_s]
    cases jin p nc <;> simp [h] <;> rfl
theorem gl_ex {nc : Nat} (hn : nc ≤ 20) {p : Int32} (h : glB nc p = true) : ∃ r, Gl nc p r := by
  unfold glB at h
  simp only [Bool.or_eq_true, decide_eq_true_eq] at h
  rcases h with h | h
  · exact ⟨20, Or.inl ⟨h, rfl⟩⟩
  · obtain ⟨r, h1, h2⟩ := jin_ex (by omega) h
    exact ⟨r, Or.inr ⟨h2, h1⟩⟩
theorem nI_m1 {k : Nat} (hk : k < 2 ^ 31) : nI k ≠ -1 := fun q => by
  have := nI_pos hk
  rw [q] at this
  exact this (by decide)
theorem Gl.h {nc : Nat} {p : Int32} {r : Nat} (h : Gl nc p r) : hr nc r := h.elim (fun q => Or.inr q.2) (fun q => Or.inl q.2)
theorem Gl.slot {nc : Nat} (hn : nc ≤ 20) {p : Int32} {r : Nat} (h : Gl nc p r) : m_X_slot p = some (nI r) := by
  unfold m_X_slot
  rcases h with h | h
  · rw [if_pos h.1, h.2]; rfl
  · rw [if_neg (by rw [h.1]; exact nI_m1 (by omega)), h.1]; rfl
theorem Gl.m {nc : Nat} (hn : nc ≤ 20) {p : Int32} {r : Nat} (h : Gl nc p r) : (if r = 20 then (-1 : Int32) else nI r) = p := by
  rcases h with h | h
  · rw [if_pos h.2, h.1]
  · rw [if_neg (by omega), h.1]
theorem Gl.le0 {nc : Nat} (hn : nc ≤ 20) {p : Int32} {r : Nat} (h : Gl nc p r) : (if (0 : Int32) ≤ p then some p else some (20 : Int32)) = some (nI r) := by
  rcases h with h | h
  · rw [h.1, if_neg (by decide), h.2]; rfl
  · rw [h.1, if_pos (by show nI 0 ≤ nI r; exact j_le (by omega) (by omega))]
theorem KI_same {nc : Nat} {x : jAx} {a a1 : jB} (h7 : a1 7 = a 7) (h8 : a1 8 = a 8) (h9 : a1 9 = a 9) (h10 : a1 10 = a 10) (h : KI nc x a) : KI nc x a1 := by
  unfold KI Xs Yx Nx Ox at *
  rw [h7, h8, h9, h10]
  exact h
theorem Enc_same {nc : Nat} {a a1 : jB} {f : Nat → Int32} (h7 : a1 7 = a 7) (h9 : a1 9 = a 9) (h10 : a1 10 = a 10) (h : Enc nc a f) : Enc nc a1 f := by
  unfold Enc Yx Nx Ox at *
  rw [h7, h9, h10]
  exact h
theorem x_isFull {s : jS} {a : jB} {x : jAx} (hA : XA s a x) : m_XA_isFull s a = some (bI (decide (40 ≤ x.1))) := by
  unfold m_XA_isFull
  rw [hA.1]
  have := hA.2.1
  by_cases h : x.1 < 40
  · rw [if_pos (show nI x.1 < (40 : Int32) from nI_lt (b := 40) h (by decide)), decide_eq_false (by omega)]; rfl
  · rw [if_neg (show ¬ nI x.1 < (40 : Int32) from nI_nlt (b := 40) (by omega) (by omega)), decide_eq_true (by omega)]; rfl
theorem upd_at (f : Nat → Int32) (k : Nat) (v : Int32) : upd f k v k = v := by unfold upd; rw [if_pos rfl]
theorem upd_ne (f : Nat → Int32) {k j : Nat} (v : Int32) (h : j ≠ k) : upd f k v j = f j := by unfold upd; rw [if_neg h]
theorem XA_add {s : jS} {a : jB} {x : jAx} (hA : XA s a x) (h40 : x.1 < 40) (l o r : Nat) {s1 : jS} {a1 : jB} (e4 : s1 4 = nI (x.1 + 1)) (e2 : a1 2 = upd (a 2) x.1 (if o = 20 then b1 l else b1 l ||| b1 o)) (e3 : a1 3 = upd (a 3) x.1 (nI r)) : XA s1 a1 (axAdd x l o r) := by
  refine ⟨e4, by show x.1 + 1 ≤ 40; omega, fun k hk => ?_⟩
  have hk : k < x.1 + 1 := hk
  rw [e2, e3]
  unfold lfI
  by_cases e : k = x.1
  · subst e
    obtain ⟨q1, q2, q3, q4⟩ := axAdd_new (x := x) (l := l) (o := o) (r := r)
    rw [q1, q2, q3, q4, upd_at, upd_at, if_pos rfl]
    exact ⟨rfl, rfl⟩
  · obtain ⟨q1, q2, q3, q4⟩ := axAdd_old (x := x) (l := l) (o := o) (r := r) (show k < x.1 by omega)
    rw [q1, q2, q3, q4, upd_ne _ _ e, upd_ne _ _ e]
    exact hA.2.2 k (by omega)
theorem MA_add {s : jS} {a : jB} {nc : Nat} {x : jAx} (hA : MA s a nc x) (h40 : x.1 < 40) {l o r : Nat} (hl : l < nc) (ho : o < nc ∨ o = 20) (hr0 : hr nc r) {s1 : jS} {a1 : jB} (e1 : s1 1 = s 1) (e3 : s1 3 = nI (x.1 + 1)) (f1 : a1 1 = upd (a 1) x.1 (nI l)) (f2 : a1 2 = upd (a 2) x.1 (if o = 20 then -1 else nI o)) (f3 : a1 3 = upd (a 3) x.1 (nI r)) (f4 : a1 4 = upd (a 4) x.1 1) : MA s1 a1 nc (axAdd x l o r) := by
  obtain ⟨h1, h2, h3, h4, h5⟩ := hA
  refine ⟨e1.trans h1, h2, e3, by show x.1 + 1 ≤ 40; omega, fun k hk => ?_⟩
  have hk : k < x.1 + 1 := hk
  rw [f1, f2, f3, f4]
  by_cases e : k = x.1
  · subst e
    obtain ⟨q1, q2, q3, q4⟩ := axAdd_new (x := x) (l := l) (o := o) (r := r)
    rw [q1, q2, q3, q4, upd_at, upd_at, upd_at, upd_at]
    exact ⟨rfl, hl, rfl, ho, rfl, hr0, rfl⟩
  · obtain ⟨q1, q2, q3, q4⟩ := axAdd_old (x := x) (l := l) (o := o) (r := r) (show k < x.1 by omega)
    rw [q1, q2, q3, q4, upd_ne _ _ e, upd_ne _ _ e, upd_ne _ _ e, upd_ne _ _ e]
    exact h5 k (by omega)
theorem axiom_core {nc nt fu : Nat} {x : jAx} {mem : Nat → Nat → Bool} {pl : Nat → Bool} {s : jS} {a : jB} {s' : jS} {a' : jB} (hR : RelD nc nt fu x mem pl s a s' a') {l o r : Nat} {p1 p2 : Int32} (hl : l < nc) (ho : Gl nc p1 o) (hr0 : Gl nc p2 r) :
    ∃ v s1 a1 s2 a2, axTX (if p1 = -1 then 1 else 0) s a (nI l) p1 p2 = some (v, s1, a1) ∧ axTM s' a' (nI l) p1 p2 = some (v, s2, a2) ∧ Rel s1 a1 s2 a2 := by
  have hR' := hR
  obtain ⟨⟨c1, c2, c3, c4⟩, ⟨d0, d1, d2, d3, d4, d5, d6, d7⟩, ⟨e1, e2, e3⟩, ⟨f1, f2, f3⟩, ⟨g1, g2⟩, h1⟩ := hR'
  unfold axTX axTM
  by_cases e : p1 = nI l
  · rw [if_pos e, if_pos e]
    exact ⟨-2, s, a, s', a', rfl, rfl, nc, nt, fu, x, mem, pl, hR⟩
  · rw [if_neg e, if_neg e, x_isFull d5, jb_s, e1.2.2.1]
    have h40 := d5.2.1
    by_cases hf : x.1 = 40
    · rw [hf, decide_eq_true (by omega), if_neg (by decide), if_pos (by decide)]
      exact ⟨-4, s, a, s', a', rfl, rfl, nc, nt, fu, x, mem, pl, hR⟩
    · have h40 : x.1 < 40 := by omega
      have hne : l ≠ o := by
        rintro rfl
        rcases ho with q | q
        · omega
        · exact e q.1
      have hbit : (if (if p1 = -1 then (1 : Int32) else 0) = 0 then jb (m_X_bit (nI l)) (fun v51 => jb (m_X_bit p1) (fun v53 => some (v51 ||| v53))) else jb (m_X_bit (nI l)) (fun v55 => some v55)) = some (if o = 20 then b1 l else b1 l ||| b1 o) := by
        rcases ho with q | q
        · rw [if_pos q.1, if_neg (by decide), if_pos q.2]; rfl
        · rw [if_neg (show ¬ p1 = -1 by rw [q.1]; exact nI_m1 (by omega)), if_pos rfl, if_neg (by omega), q.1]; rfl
      have ho' : o < nc ∨ o = 20 := ho.h
      rw [decide_eq_false (by omega), if0f, hbit, jb_s, hr0.slot c1, jb_s, if_neg (show ¬ nI x.1 = 40 from fun q => hf ((nI_eq (b := 40) (by omega) (by decide)).mp q)), jg_nI h40 (by decide), jg_nI h40 (by decide), hr0.le0 c1, jb_s, jg_nI h40 (by decide), jg_nI h40 (by decide), nI_clamp (by omega)]
      rw [show m_XA_add s a (if o = 20 then b1 l else b1 l ||| b1 o) (nI r) = some (nI x.1, upd (upd s 4 (nI (x.1 + 1))) 5 (s 5 + 1), va_up (va_up a 2 (upd (a 2) x.1 (if o = 20 then b1 l else b1 l ||| b1 o))) 3 (upd (a 3) x.1 (nI r))) by
        unfold m_XA_add
        rw [x_isFull d5, jb_s, decide_eq_false (by omega), if0f, d5.1, jg_nI h40 (by decide), jg_nI h40 (by decide), pm1, nI_1, nI_clamp (by omega)]
        rfl, jb3_s]
      generalize hs1 : upd (upd s 4 (nI (x.1 + 1))) 5 (s 5 + 1) = s1
      generalize ha1 : va_up (va_up a 2 (upd (a 2) x.1 (if o = 20 then b1 l else b1 l ||| b1 o))) 3 (upd (a 3) x.1 (nI r)) = a1
      rw [pm1, nI_1]
      generalize hs2 : upd (upd s' 3 (nI (x.1 + 1))) 6 0 = s2
      generalize ha2 : va_up (va_up (va_up (va_up a' 1 _) 2 _) 3 _) 4 _ = a2
      have hX1 : XA s1 a1 (axAdd x l o r) := XA_add d5 h40 l o r (by rw [← hs1]; rfl) (by rw [← ha1]; rfl) (by rw [← ha1]; rfl)
      have hM1 : MA s2 a2 nc (axAdd x l o r) := MA_add e1 h40 hl ho' hr0.h (by rw [← hs2]; rfl) (by rw [← hs2]; rfl) (by rw [← ha2]; rfl) (by rw [← ha2, ho.m c1]; rfl) (by rw [← ha2]; rfl) (by rw [← ha2]; rfl)
      have kp : ∀ p, p ≠ 2 → p ≠ 3 → a1 p = a p := fun p h2 h3 => by rw [← ha1, up_ne _ _ h3, up_ne _ _ h2]
      have kp' : ∀ p, 5 ≤ p → a2 p = a' p := fun p h => by rw [← ha2, up_ne _ _ (by omega), up_ne _ _ (by omega), up_ne _ _ (by omega), up_ne _ _ (by omega)]
      have hK1 : KI nc x a1 := KI_same (kp 7 (by decide) (by decide)) (kp 8 (by decide) (by decide)) (kp 9 (by decide) (by decide)) (kp 10 (by decide) (by decide)) g1
      have hE1 : Enc nc a1 (a' 6) := Enc_same (kp 7 (by decide) (by decide)) (kp 9 (by decide) (by decide)) (kp 10 (by decide) (by decide)) g2
      obtain ⟨z, a0, hh, gg, a3, ff, k1, k2, k3, k4, k5, k6, k7, k8⟩ := addAxiom c1 c4 hK1 hE1 hl ho' hr0.h hne hX1 hM1 (kp' 6 (by decide))
      rw [k1, jb_s, k2, jb2_s, k3, jb2_s, k5, jb2_s, k6, jb2_s, hM1.2.2.1, show (axAdd x l o r).1 = x.1 + 1 from rfl, nI_pred]
      refine ⟨_, _, _, _, _, rfl, rfl, nc, nt, fu, axAdd x l o r, mem, pl, ⟨c1, c2, c3, Axw_add c4 hl ho' hr0.h hne⟩, ⟨?_, ?_, ?_, ?_, Or.inl rfl, ?_, ?_, ?_⟩, ⟨?_, ?_, ?_⟩, ⟨?_, ?_, f3⟩, ⟨k7, ?_⟩, fun q => absurd q (by show ¬ (0 : Int32) = 1; decide)⟩
      · rw [← hs1]; exact d0
      · rw [← hs1]; exact d1
      · rw [← hs1, ← hs2]; exact d2
      · rw [← hs2]; rfl
      · refine ⟨hX1.1, hX1.2.1, fun k hk => ?_⟩
        rw [k4 2 (by decide) (by decide) (by decide) (by decide), k4 3 (by decide) (by decide) (by decide) (by decide)]
        exact hX1.2.2 k hk
      · rw [← hs1]
        show s 5 + 1 = nI (cb (axAdd x l o r).2.2.2.2 x.1 + if (axAdd x l o r).2.2.2.2 x.1 = true then 1 else 0)
        rw [axAdd_new.2.2.2, if_pos rfl, d6, nI_1, cb_congr (fun i hi => (axAdd_old hi).2.2.2)]
      · rw [← hs1]; exact d7
      · exact MA_same hM1 rfl rfl (fun p _ _ => by rw [up_ne _ _ (by omega), up_ne _ _ (by omega)])
      · rw [← hs2]; exact e2
      · rw [← hs2]; exact e3
      · intro t ht
        rw [k4 12 (by decide) (by decide) (by decide) (by decide), kp 12 (by decide) (by decide)]
        exact f1 t ht
      · intro t c ht hc
        rw [up_ne _ _ (by decide), up_ne _ _ (by decide), kp' 5 (by decide)]
        exact f2 t c ht hc
      · rw [up_self]; exact k8
theorem jin_m1 (n : Nat) : jin (-1) n = false := by
  cases h : jin (-1) n with
  | false => rfl
  | true => exact absurd (jin_t h).1 (by decide)
theorem s_axiom : sim_axiom Rel := by
  rintro s a s' a' p0 p1 p2 ⟨nc, nt, fu, x, mem, pl, hR⟩
  have hR' := hR
  obtain ⟨⟨c1, c2, c3, c4⟩, ⟨d0, d1, d2, d3, d4, d5, d6, d7⟩, ⟨e1, e2, e3⟩, ⟨f1, f2, f3⟩, ⟨g1, g2⟩, h1⟩ := hR'
  have bad : ∃ v s1 a1 s2 a2, some ((-1 : Int32), s, a) = some (v, s1, a1) ∧ some ((-1 : Int32), s', a') = some (v, s2, a2) ∧ Rel s1 a1 s2 a2 := ⟨-1, s, a, s', a', rfl, rfl, nc, nt, fu, x, mem, pl, hR⟩
  rw [axX_eq, axM_eq, M_isClass e1.1 c1, X_isClass d0 c1, X_isGoal d0 c1, X_isClass d0 c1, M_isClass e1.1 c1, M_isClass e1.1 c1]
  rw [show (if p1 = (-1 : Int32) then some (1 : Int32) else some (0 : Int32)) = some (if p1 = -1 then 1 else 0) by split <;> rfl]
  simp only [jb_s]
  cases h0 : jin p0 nc with
  | false => rw [if0f, if0f]; exact bad
  | true =>
    obtain ⟨l, hl, rfl⟩ := jin_ex (by omega) h0
    rw [if0t, if0t]
    by_cases q1 : p1 = -1
    · have core := fun r (h : Gl nc p2 r) => axiom_core hR hl (Or.inl ⟨q1, rfl⟩) h
      rw [if_pos q1] at core ⊢
      rw [if_neg (show ¬ (1 : Int32) = 0 by decide), if_pos q1]
      by_cases q2 : p2 = -1
      · rw [show glB nc p2 = true by simp [glB, q2], if0t, if_pos q2]
        exact core 20 (Or.inl ⟨q2, rfl⟩)
      · rw [if_neg q2, show glB nc p2 = jin p2 nc by simp [glB, q2]]
        cases h2 : jin p2 nc with
        | false => rw [if0f, if0f]; exact bad
        | true =>
          rw [if0t, if0t]
          obtain ⟨r, hr, er⟩ := jin_ex (by omega) h2
          exact core r (Or.inr ⟨er, hr⟩)
    · have core := fun o r (g : Gl nc p1 o) (h : Gl nc p2 r) => axiom_core hR hl g h
      rw [if_neg q1] at core ⊢
      rw [if_pos rfl, if_neg q1]
      cases h1 : jin p1 nc with
      | false => rw [if0f, if0f]; exact bad
      | true =>
        obtain ⟨o, ho, eo⟩ := jin_ex (by omega) h1
        rw [if0t, if0t]
        by_cases q2 : p2 = -1
        · rw [show glB nc p2 = true by simp [glB, q2], if0t, if_pos q2]
          exact core o 20 (Or.inr ⟨eo, ho⟩) (Or.inl ⟨q2, rfl⟩)
        · rw [if_neg q2, show glB nc p2 = jin p2 nc by simp [glB, q2]]
          cases h2 : jin p2 nc with
          | false => rw [if0f, if0f]; exact bad
          | true =>
            rw [if0t, if0t]
            obtain ⟨r, hr, er⟩ := jin_ex (by omega) h2
            exact core o r (Or.inr ⟨eo, ho⟩) (Or.inr ⟨er, hr⟩)

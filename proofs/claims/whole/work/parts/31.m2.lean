/-! the reference: what is told of itself -/
theorem MA_up6 {s : jS} {a : jB} {nc : Nat} {x : jAx} (h : MA s a nc x) (g : Nat → Int32) : MA s (va_up a 6 g) nc x := by
  obtain ⟨h1, h2, h3, h4, hk⟩ := h
  exact ⟨h1, h2, h3, h4, hk⟩
theorem set2_at (g : Nat → Int32) (v : Int32) {i j i' j' : Nat} (hj : j < 21) (hj' : j' < 21) : upd g (21 * i + j) v (21 * i' + j') = if i' = i ∧ j' = j then v else g (21 * i' + j') := by
  unfold upd
  by_cases h : i' = i ∧ j' = j
  · rw [if_pos h, if_pos (by rw [h.1, h.2])]
  · rw [if_neg h, if_neg (by omega)]
theorem lt20_iff {j : Nat} (hj : j < 2 ^ 31) : (20 : Int32) < nI j ↔ 20 < j := nI_ltI (a := 20) (by decide) hj
/-- one turn of tellItself's inner loop -/
theorem M_tell_turn {s : jS} {a : jB} {nc : Nat} {x : jAx} (hA : MA s a nc x) {i j : Nat} (hi : i < 20) (hj : j < 21) (kk : jS → jB → Option (jS × jB)) (f : Nat) :
    L_M_tellItself_12 (nI i) kk (f + 1) s a (nI j) = L_M_tellItself_12 (nI i) kk f s (if hrB nc j && selfB x i j then va_up a 6 (upd (a 6) (21 * i + j) 1) else a) (nI (j + 1)) := by
  obtain ⟨h1, h2, h3, h4, hk⟩ := id hA
  rw [L_M_tellItself_12, if_neg (by rw [lt20_iff (by omega)]; omega), h1, M_isItself hA (by omega) hj, nI_1]
  simp only [jb_s, jg_pair hi hj, cl_pair hi hj, bI_z]
  by_cases q1 : j < nc
  · rw [if_pos (nI_lt q1 (by omega))]
    cases hs : selfB x i j <;> simp [hrB, q1]
  · rw [if_neg (nI_nlt (by omega) (by omega))]
    by_cases q2 : j = 20
    · rw [if_pos ((e20 (by omega)).mpr q2)]
      cases hs : selfB x i j <;> simp [hrB, q2]
    · rw [if_neg (fun q => q2 ((e20 (by omega)).mp q))]
      simp [hrB, q1, q2]
def told1 (nc : Nat) (x : jAx) (g0 g : Nat → Int32) (P : Nat → Nat → Prop) : Prop := ∀ i j, i < 20 → j < 21 → (P i j ∧ hr nc j ∧ selfB x i j = true → g (21 * i + j) = 1) ∧ (¬ (P i j ∧ hr nc j ∧ selfB x i j = true) → g (21 * i + j) = g0 (21 * i + j))
theorem M_tell_row {s : jS} {a : jB} {nc : Nat} {x : jAx} (hA : MA s a nc x) {i : Nat} (hi : i < 20) (kk : jS → jB → Option (jS × jB)) (g : Nat → Int32) :
    ∃ g', told1 nc x g g' (fun i' _ => i' = i) ∧ L_M_tellItself_12 (nI i) kk jF s (va_up a 6 g) 0 = kk s (va_up a 6 g') := by
  refine lp_out0 (fun f (g : Nat → Int32) z => L_M_tellItself_12 (nI i) kk f s (va_up a 6 g) z) (fun k g' => told1 nc x g g' (fun i' j' => i' = i ∧ j' < k)) 21 (fun o => ∃ g', told1 nc x g g' (fun i' _ => i' = i) ∧ o = kk s (va_up a 6 g')) (by decide) ?_ ?_ g ?_
  · intro f k g1 hk hI
    left
    have ht := M_tell_turn (MA_up6 hA g1) hi hk kk f
    rw [up_self, up_up] at ht
    refine ⟨if hrB nc k && selfB x i k then upd g1 (21 * i + k) 1 else g1, ?_, ?_⟩
    · intro i' j' hi' hj'
      obtain ⟨p1, p2⟩ := hI i' j' hi' hj'
      by_cases hc : (hrB nc k && selfB x i k) = true
      · rw [if_pos hc, set2_at g1 1 hk hj']
        simp only [Bool.and_eq_true, hrB_iff] at hc
        constructor
        · rintro ⟨⟨rfl, q1⟩, q2, q3⟩
          by_cases e : j' = k
          · rw [if_pos ⟨rfl, e⟩]
          · rw [if_neg (fun q => e q.2)]
            exact p1 ⟨⟨rfl, by omega⟩, q2, q3⟩
        · intro q
          rw [if_neg (fun e => q ⟨⟨e.1, by omega⟩, by rw [e.2]; exact hc.1, by rw [e.1, e.2]; exact hc.2⟩)]
          exact p2 (fun r => q ⟨⟨r.1.1, by omega⟩, r.2⟩)
      · rw [if_neg hc]
        simp only [Bool.and_eq_true, hrB_iff] at hc
        constructor
        · rintro ⟨⟨rfl, q1⟩, q2, q3⟩
          by_cases e : j' = k
          · subst e; exact absurd ⟨q2, q3⟩ hc
          · exact p1 ⟨⟨rfl, by omega⟩, q2, q3⟩
        · intro q
          exact p2 (fun r => q ⟨⟨r.1.1, by omega⟩, r.2⟩)
    · rw [ht]
      split <;> rfl
  · intro f g1 hI
    refine ⟨g1, fun i' j' hi' hj' => ?_, ?_⟩
    · obtain ⟨p1, p2⟩ := hI i' j' hi' hj'
      exact ⟨fun q => p1 ⟨⟨q.1, hj'⟩, q.2⟩, fun q => p2 (fun r => q ⟨r.1.1, r.2⟩)⟩
    · show L_M_tellItself_12 (nI i) kk (f + 1) s (va_up a 6 g1) (nI 21) = _
      rw [L_M_tellItself_12, if_pos (by decide)]
  · intro i' j' _ _
    exact ⟨fun q => absurd q.1.2 (by omega), fun _ => rfl⟩
theorem M_tellItself {s : jS} {a : jB} {nc : Nat} {x : jAx} (hA : MA s a nc x) : ∃ g, told1 nc x (a 6) g (fun i _ => i < nc) ∧ m_M_tellItself s a = some (s, va_up a 6 g) := by
  obtain ⟨h1, h2, h3, h4, hk⟩ := id hA
  unfold m_M_tellItself
  have e0 : a = va_up a 6 (a 6) := (up_id a 6).symm
  have key := lp_out0 (fun f (g : Nat → Int32) z => L_M_tellItself_2 (fun s8 a9 => some (s8, a9)) f s (va_up a 6 g) z) (fun k g' => told1 nc x (a 6) g' (fun i' _ => i' < k)) nc (fun o => ∃ g, told1 nc x (a 6) g (fun i _ => i < nc) ∧ o = some (s, va_up a 6 g)) (by omega) ?_ ?_ (a 6) ?_
  · rw [up_id] at key; exact key
  · intro f k g1 hk' hI
    left
    obtain ⟨g2, q1, q2⟩ := M_tell_row hA (show k < 20 by omega) (fun s5 a6 => L_M_tellItself_2 (fun s8 a9 => some (s8, a9)) f s5 a6 (nI k + 1)) g1
    refine ⟨g2, fun i j hi hj => ?_, ?_⟩
    · obtain ⟨p1, p2⟩ := hI i j hi hj
      obtain ⟨r1, r2⟩ := q1 i j hi hj
      constructor
      · rintro ⟨z1, z2⟩
        by_cases e : i = k
        · exact r1 ⟨e, z2⟩
        · rw [r2 (fun z => e z.1)]
          exact p1 ⟨by omega, z2⟩
      · intro z
        rw [r2 (fun y => z ⟨by omega, y.2⟩)]
        exact p2 (fun y => z ⟨by omega, y.2⟩)
    · rw [L_M_tellItself_2, h1, if_neg (j_lt hk' (by omega)), q2, nI_1]
  · intro f g1 hI
    refine ⟨g1, hI, ?_⟩
    rw [L_M_tellItself_2, h1, if_pos (j_le (Nat.le_refl _) (by omega))]
  · intro i j _ _
    exact ⟨fun q => absurd q.1 (by omega), fun _ => rfl⟩

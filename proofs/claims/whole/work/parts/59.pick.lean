/-! the nth of a set: equal, empty, parent, child, open -/
def nthN (p : Nat → Bool) (n : Nat) (i : Int32) : Int32 := match fstB (fun k => p k && decide (nI (cb p k) = i)) n with
  | some k => nI k
  | none => -6
theorem nthI_eq {p : Nat → Bool} {n : Nat} (hn : n < 2 ^ 31) (i : Int32) : nthI p n i = nthN p n i := by
  unfold nthI nthN
  by_cases h : i < 0
  · rw [if_pos h, fstB_none (fun j hj => ?_)]
    rw [Bool.and_eq_false_iff]
    right
    rw [decide_eq_false_iff_not]
    intro q
    have := cb_le p j
    exact nI_pos (show cb p j < 2 ^ 31 by omega) (by rw [q]; exact h)
  · rw [if_neg h]
    cases fstB (fun k => p k && decide (nI (cb p k) = i)) n <;> rfl
theorem fstB_ext {p q : Nat → Bool} {n m : Nat} (hnm : n ≤ m) (h1 : ∀ k, k < n → p k = q k) (h2 : ∀ k, n ≤ k → k < m → p k = false) : fstB p m = fstB q n := by
  obtain ⟨s1, s2⟩ := fstB_spec q n
  cases h : fstB q n with
  | some k =>
    obtain ⟨a1, a2, a3⟩ := s1 k h
    exact fstB_some (by omega) (by rw [h1 k a1]; exact a2) (fun j hj => by rw [h1 j (by omega)]; exact a3 j hj)
  | none =>
    refine fstB_none (fun j hj => ?_)
    by_cases e : j < n
    · rw [h1 j e]; exact s2 h j e
    · exact h2 j (by omega) hj
theorem nthN_ext {p q : Nat → Bool} {n m : Nat} (hnm : n ≤ m) (h1 : ∀ k, k < n → p k = q k) (h2 : ∀ k, n ≤ k → k < m → p k = false) (i : Int32) : nthN p m i = nthN q n i := by
  unfold nthN
  rw [fstB_ext hnm (q := fun k => q k && decide (nI (cb q k) = i)) (fun k hk => by rw [h1 k hk, cb_congr (fun j hj => h1 j (by omega))]) (fun k h3 h4 => by rw [h2 k h3 h4]; rfl)]
theorem j_ss (x y z : Int32) : x - y - z = x - (y + z) := by grind
theorem x_pick (w : Int32) (i : Int32) : m_X_pick w i = some (nthN (bt w) 21 i) := by
  rw [← nthI_eq (by decide)]
  unfold m_X_pick
  have st : ∀ f k z, k < 21 → L_X_pick_4 w (fun _ => some (-6)) (f + 1) z (nI k) = if bt w k = true then (if z = 0 then some (nI k) else L_X_pick_4 w (fun _ => some (-6)) f (z - 1) (nI (k + 1))) else L_X_pick_4 w (fun _ => some (-6)) f z (nI (k + 1)) := by
    intro f k z hk
    rw [L_X_pick_4, if_neg (show ¬ (21 : Int32) ≤ nI k from j_lt (n := 21) hk (by decide)), x_has _ (by omega), jb_s, nI_1, show z + -1 = z - 1 by rw [Int32.sub_eq_add_neg]]
    cases bt w k with
    | false => rw [if0f]; rfl
    | true => rw [if0t]; rfl
  have fi : ∀ f z, L_X_pick_4 w (fun _ => some (-6)) (f + 1) z (nI 21) = some (-6) := fun f z => by
    rw [L_X_pick_4, if_pos (show (21 : Int32) ≤ nI 21 by decide)]
  by_cases h : i < 0
  · unfold nthI
    rw [if_pos h]
    refine lp_out0 (fun f z y => L_X_pick_4 w (fun _ => some (-6)) f z y) (fun k z => z = i - nI (cb (bt w) k)) 21 (fun o => o = some (-6)) (by decide) ?_ (fun f z _ => fi f z) i ?_
    · intro f k z hk hI
      left
      rw [st f k z hk]
      cases hb : bt w k with
      | false =>
        refine ⟨z, ?_, by rw [if_neg (by decide)]⟩
        rw [cb, hb]; exact hI
      | true =>
        rw [if_pos rfl, if_neg]
        · refine ⟨z - 1, ?_, rfl⟩
          rw [cb, hb, if_pos rfl, ← nI_add, hI, show nI 1 = 1 from rfl]
          exact j_ss _ _ _
        · intro q
          rw [hI] at q
          have e : i = nI (cb (bt w) k) := by
            have := congrArg (· + nI (cb (bt w) k)) q
            rw [Int32.sub_add_cancel, Int32.zero_add] at this
            exact this
          have := cb_le (bt w) k
          exact nI_pos (show cb (bt w) k < 2 ^ 31 by omega) (by rw [← e]; exact h)
    · show i = i - nI 0
      rw [show nI 0 = 0 from rfl, Int32.sub_zero]
  · exact lp_nth (fun f z y => L_X_pick_4 w (fun _ => some (-6)) f z y) (bt w) 21 (by decide) i h (fun z => some z) st fi
theorem jb_eq {α β : Type} {o : Option α} {v : α} {k : α → Option β} {r : Option β} (h : o = some v) (h2 : k v = r) : jb o k = r := by rw [h]; exact h2
theorem mnth {R : Type} (b : Bool) (z : Int32) (W : Option R) (L : Int32 → Option R) : (if bI b = (0 : Int32) then jb (if bI b = (0 : Int32) then some (0 : Int32) else some (1 : Int32)) (fun b4 => L (z - b4)) else (if z = (0 : Int32) then W else jb (if bI b = (0 : Int32) then some (0 : Int32) else some (1 : Int32)) (fun b5 => L (z - b5)))) = if b = true then (if z = 0 then W else L (z - 1)) else L z := by
  cases b with
  | false => rw [if0f, if0f, jb_s, Int32.sub_zero]; rfl
  | true => rw [if0t, if0t, jb_s]; rfl
theorem MB_of {nc : Nat} {x : jAx} {s' : jS} {a a' : jB} (hn : nc ≤ 20) (hK : KI nc x a) (hE : Enc nc a (a' 6)) : MB nc (Yb a) s' a' := by
  intro i j hi hj
  have hi' := hr_lt hn hi
  have hj' := hr_lt hn hj
  rw [M_below hi' hj']
  congr 2
  rw [Bool.eq_iff_iff, Yb_iff hi']
  unfold blw
  simp only [Bool.or_eq_true, decide_eq_true_eq]
  rcases hi with h | h
  · rw [(hE.2 i j h hj).1]
    exact ⟨fun q => q.elim (fun w => by omega) id, Or.inr⟩
  · rw [h]
    exact ⟨fun _ => hK.2.1.2.1 j hj, fun _ => Or.inl rfl⟩
def plP (nc : Nat) (pl : Nat → Bool) : Nat → Bool := fun c => decide (c < nc) && pl c
theorem plP_lt {nc : Nat} {pl : Nat → Bool} (c : Nat) (h : plP nc pl c = true) : c < nc := by
  unfold plP at h
  simp only [Bool.and_eq_true, decide_eq_true_eq] at h
  exact h.1
theorem XP_of {nc : Nat} (hn : nc ≤ 20) {pl : Nat → Bool} {s : jS} (h : s 9 = bs pl nc) : XP (plP nc pl) s := by
  unfold XP
  rw [h]
  refine bs_eq (by decide) (fun i hi => ?_)
  rw [b_bs _ (by omega)]
  unfold plP
  by_cases e : i < nc
  · simp [e]; omega
  · simp [e]
theorem s_empty : sim_empty Rel := by
  rintro s a s' a' p0 ⟨nc, nt, fu, x, mem, pl, hR⟩
  have hR' := hR
  obtain ⟨⟨c1, c2, c3, c4⟩, ⟨d0, d1, d2, d3, d4, d5, d6, d7⟩, ⟨e1, e2, e3⟩, ⟨f1, f2, f3⟩, ⟨g1, g2⟩, h1⟩ := hR'
  have rel : Rel s a s' a' := ⟨nc, nt, fu, x, mem, pl, hR⟩
  unfold m_X_empty m_M_empty
  rw [← d3]
  by_cases z : s 3 = 0
  · rw [if_pos z, if_pos z]; exact ⟨_, rfl, rfl, rel⟩
  rw [if_neg z, if_neg z]
  obtain ⟨h9, h10, h8⟩ := h1 (d4.resolve_left z)
  unfold m_XO_emptyClasses
  rw [jb_s, h10, x_pick, jb_s, nthN_ext (p := bt (bs (fun c => !pl c) nc)) (q := fun c => !pl c) (n := nc) (by omega) (fun k hk => by rw [b_bs _ (by omega), decide_eq_true hk]; rfl) (fun k hk _ => by rw [b_bs _ (by omega), decide_eq_false (by omega)]; rfl)]
  refine ⟨_, rfl, ?_, rel⟩
  by_cases hi : p0 < 0
  · rw [← nthI_eq (by omega)]
    unfold nthI
    rw [if_pos hi]
    show L_M_empty_14 s' a' p0 _ (4095 + 1) p0 (nI 0) = _
    rw [L_M_empty_14, if_pos hi]
    split <;> rfl
  · rw [← nthI_eq (by omega)]
    refine lp_nth (fun f z y => L_M_empty_14 s' a' p0 (fun _ => some (-6)) f z y) _ nc (by omega) p0 hi (fun z => some z) (fun f k z hk => ?_) (fun f z => ?_)
    · show L_M_empty_14 s' a' p0 _ (f + 1) z (nI k) = _
      rw [L_M_empty_14, e1.1, if_neg (j_lt hk (by omega)), if_neg hi, jg_nI (by omega) (by decide), jg_nI (by omega) (by decide), nI_clamp (by omega), h8 k (by omega), decide_eq_true hk, Bool.true_and, nI_1]
      cases pl k with
      | false => rw [if0f, if0f, jb_s]; rfl
      | true => rw [if0t, if0t, jb_s, Int32.sub_zero]; rfl
    · show L_M_empty_14 s' a' p0 _ (f + 1) z (nI nc) = _
      rw [L_M_empty_14, e1.1, if_pos (j_le (Nat.le_refl _) (by omega))]
theorem Yb_hr {nc : Nat} {a : jB} (hs : Xs nc a) {i j : Nat} (hi : i < 21) (h : Yb a i j = true) : hr nc i ∧ hr nc j := hs.2.2.1 i j ((Yb_iff hi).mp h)
theorem s_equal : sim_equal Rel := by
  rintro s a s' a' p0 p1 ⟨nc, nt, fu, x, mem, pl, hR⟩
  have hR' := hR
  obtain ⟨⟨c1, c2, c3, c4⟩, ⟨d0, d1, d2, d3, d4, d5, d6, d7⟩, ⟨e1, e2, e3⟩, ⟨f1, f2, f3⟩, ⟨g1, g2⟩, h1⟩ := hR'
  have rel : Rel s a s' a' := ⟨nc, nt, fu, x, mem, pl, hR⟩
  have hB := MB_of (s' := s') c1 g1 g2
  unfold m_X_equal m_M_equal
  rw [X_isClass d0 c1, jb_s, M_isClass e1.1 c1, jb_s, ← d3]
  cases hc : jin p0 nc with
  | false => rw [if0f, if0f]; exact ⟨_, rfl, rfl, rel⟩
  | true =>
    obtain ⟨i, hi, rfl⟩ := jin_ex (by omega) hc
    rw [if0t, if0t]
    by_cases z : s 3 = 0
    · rw [if_pos z, if_pos z]; exact ⟨_, rfl, rfl, rel⟩
    rw [if_neg z, if_neg z, x_same c1 g1.1 (by omega), jb_s, show m_X_bit 20 = some (b1 20) from rfl, jb_s, x_pick, jb_s]
    rw [nthN_ext (q := fun j => Yb a i j && Yb a j i) (n := nc) (by omega)]
    · refine ⟨_, rfl, ?_, rel⟩
      by_cases hi0 : p1 < 0
      · rw [← nthI_eq (by omega)]
        unfold nthI
        rw [if_pos hi0]
        show L_M_equal_25 s' a' (nI i) p1 _ (4095 + 1) p1 (nI 0) = _
        rw [L_M_equal_25, if_pos hi0]
        split <;> rfl
      · rw [← nthI_eq (by omega)]
        refine lp_nth (fun f z y => L_M_equal_25 s' a' (nI i) p1 (fun _ => some (-6)) f z y) _ nc (by omega) p1 hi0 (fun z => some z) (fun f k z hk => ?_) (fun f z => ?_)
        · show L_M_equal_25 s' a' (nI i) p1 _ (f + 1) z (nI k) = _
          rw [L_M_equal_25, e1.1, if_neg (j_lt hk (by omega)), if_neg hi0, hB i k (Or.inl hi) (Or.inl hk), jb_s, hB k i (Or.inl hk) (Or.inl hi), jb_s, nI_1]
          refine jb_eq (v := bI (Yb a i k && Yb a k i)) ?_ ?_
          · cases Yb a i k <;> cases Yb a k i <;> rfl
          · exact mnth _ z _ (fun q => L_M_equal_25 s' a' (nI i) p1 (fun _ => some (-6)) f q (nI (k + 1)))
        · show L_M_equal_25 s' a' (nI i) p1 _ (f + 1) z (nI nc) = _
          rw [L_M_equal_25, e1.1, if_pos (j_le (Nat.le_refl _) (by omega))]
    · intro k hk
      rw [b_and, b_bs _ (by decide), b_not _ (by omega), b_b1 (by decide), decide_eq_true (show k < 21 by omega), decide_eq_false (show ¬ k = 20 by omega)]
      simp
    · intro k h1 h2
      rw [b_and, b_bs _ (by decide), b_not _ (by omega), b_b1 (by decide)]
      by_cases e : k = 20
      · simp [e]
      · cases e2 : Yb a i k with
        | false => simp
        | true =>
          rcases (Yb_hr g1.1 (by omega) e2).2 with q | q <;> omega
def parB (nc : Nat) (P : Nat → Bool) (Y : Nat → Nat → Bool) (i k : Nat) : Bool := P k && (!secB P Y k && (if P i = true then dirB nc P Y i k else !hbB nc P Y k))
theorem s_parent : sim_parent Rel := by
  rintro s a s' a' p0 p1 ⟨nc, nt, fu, x, mem, pl, hR⟩
  have hR' := hR
  obtain ⟨⟨c1, c2, c3, c4⟩, ⟨d0, d1, d2, d3, d4, d5, d6, d7⟩, ⟨e1, e2, e3⟩, ⟨f1, f2, f3⟩, ⟨g1, g2⟩, h1⟩ := hR'
  have rel : Rel s a s' a' := ⟨nc, nt, fu, x, mem, pl, hR⟩
  have hB := MB_of (s' := s') c1 g1 g2
  unfold m_X_parent m_M_parent
  rw [X_isClass d0 c1, jb_s, M_isClass e1.1 c1, jb_s, ← d3]
  cases hc : jin p0 nc with
  | false => rw [if0f, if0f]; exact ⟨_, rfl, rfl, rel⟩
  | true =>
    obtain ⟨i, hi, rfl⟩ := jin_ex (by omega) hc
    rw [if0t, if0t]
    by_cases z : s 3 = 0
    · rw [if_pos z, if_pos z]; exact ⟨_, rfl, rfl, rel⟩
    rw [if_neg z, if_neg z]
    obtain ⟨h9, h10, h8⟩ := h1 (d4.resolve_left z)
    have hXP := XP_of c1 h9
    have hMP : MP (plP nc pl) a' := h8
    have hPi : plP nc pl i = pl i := by unfold plP; rw [decide_eq_true hi]; rfl
    refine ⟨nthN (parB nc (plP nc pl) (Yb a) i) nc p1, ?_, ?_, rel⟩
    · unfold m_XO_isEmptyClass
      rw [x_has _ (by omega), jb_s, h10, b_bs _ (by omega), decide_eq_true hi, Bool.true_and, bI_jz, jg_t, jb_s]
      refine jb_eq (v := bs (fun k => if pl i = true then dirB nc (plP nc pl) (Yb a) i k else (plP nc pl k && !hbB nc (plP nc pl) (Yb a) k)) 20) ?_ ?_
      · cases hp : pl i with
        | true =>
          rw [show (!true) = false from rfl, if0f, x_dAbove c1 g1.1 hXP plP_lt (by omega), jb_s]
          simp
        | false =>
          unfold m_XO_lowest
          rw [show (!false) = true from rfl, if0t, hXP, x_lowAmong c1 g1.1 hXP plP_lt (W := plP nc pl) (fun c hc => by rw [b_bs _ (by decide), decide_eq_true hc]; rfl), jb_s, jb_s]
          congr 1
          refine bs_congr (fun k hk => ?_)
          rw [if_neg (by decide), Bool.eq_iff_iff]
          simp only [Bool.and_eq_true, Bool.and_self, Bool.not_eq_true']
          unfold hbB
          rw [show anyB (fun m => plP nc pl m && dirB nc (plP nc pl) (Yb a) m k && plP nc pl m) nc = anyB (fun m => plP nc pl m && dirB nc (plP nc pl) (Yb a) m k) nc by
            rw [Bool.eq_iff_iff, anyB_iff, anyB_iff]
            refine exists_congr (fun m => and_congr Iff.rfl ?_)
            simp only [Bool.and_eq_true]
            exact ⟨fun q => q.1, fun q => ⟨q, q.1⟩⟩]
      · rw [x_first c1 g1.1 hXP, jb_s, x_pick, jb_s]
        congr 1
        refine nthN_ext (n := nc) (m := 21) (by omega) (fun k hk => ?_) (fun k h3 h4 => ?_) _
        · rw [b_bs _ (by decide), decide_eq_true (show k < 20 by omega), Bool.true_and]
          unfold parB
          rw [hPi]
          cases hp : pl i with
          | true =>
            simp only [if_true]
            cases hd : dirB nc (plP nc pl) (Yb a) i k with
            | false => simp
            | true => rw [(dirB_iff.mp hd).1]; simp
          | false =>
            simp only [Bool.false_eq_true, if_false]
            cases plP nc pl k <;> cases hbB nc (plP nc pl) (Yb a) k <;> cases secB (plP nc pl) (Yb a) k <;> rfl
        · rw [b_bs _ (by decide)]
          have hk : plP nc pl k = false := by unfold plP; rw [decide_eq_false (by omega)]; rfl
          cases hp : pl i with
          | true =>
            simp only [if_true]
            unfold dirB
            rw [hk]; simp
          | false => rw [hk]; simp
    · by_cases hi0 : p1 < 0
      · rw [← nthI_eq (by omega)]
        unfold nthI
        rw [if_pos hi0]
        show L_M_parent_25 s' a' (nI i) p1 _ (4095 + 1) p1 (nI 0) = _
        rw [L_M_parent_25, if_pos hi0]
        split <;> rfl
      · rw [← nthI_eq (by omega)]
        refine lp_nth (fun f z y => L_M_parent_25 s' a' (nI i) p1 (fun _ => some (-6)) f z y) _ nc (by omega) p1 hi0 (fun z => some z) (fun f k z hk => ?_) (fun f z => ?_)
        · show L_M_parent_25 s' a' (nI i) p1 _ (f + 1) z (nI k) = _
          rw [L_M_parent_25, e1.1, if_neg (j_lt hk (by omega)), if_neg hi0, jg_nI (by omega) (by decide), nI_clamp (by omega), hMP k (by omega), M_isSecond c1 hB hMP hk, jb_s, jg_nI (by omega) (by decide), nI_clamp (by omega), hMP i (by omega), M_hasBelow c1 e1.1 hB hMP hk, jb_s, M_isDirect c1 e1.1 hB hMP (Or.inl hi) hk, jb_s, nI_1]
          refine jb_eq (v := bI (parB nc (plP nc pl) (Yb a) i k)) ?_ ?_
          · unfold parB
            cases plP nc pl k <;> cases plP nc pl i <;> cases hbB nc (plP nc pl) (Yb a) k <;> cases secB (plP nc pl) (Yb a) k <;> cases dirB nc (plP nc pl) (Yb a) i k <;> rfl
          · exact mnth _ z _ (fun q => L_M_parent_25 s' a' (nI i) p1 (fun _ => some (-6)) f q (nI (k + 1)))
        · show L_M_parent_25 s' a' (nI i) p1 _ (f + 1) z (nI nc) = _
          rw [L_M_parent_25, e1.1, if_pos (j_le (Nat.le_refl _) (by omega))]
def chiB (nc : Nat) (P : Nat → Bool) (Y : Nat → Nat → Bool) (i k : Nat) : Bool := P k && (!secB P Y k && dirB nc P Y k i)
theorem nthN_none {p : Nat → Bool} {n : Nat} (h : ∀ k, k < n → p k = false) (i : Int32) : nthN p n i = -6 := by
  unfold nthN
  rw [fstB_none (fun j hj => by rw [h j hj]; rfl)]
theorem s_child : sim_child Rel := by
  rintro s a s' a' p0 p1 ⟨nc, nt, fu, x, mem, pl, hR⟩
  have hR' := hR
  obtain ⟨⟨c1, c2, c3, c4⟩, ⟨d0, d1, d2, d3, d4, d5, d6, d7⟩, ⟨e1, e2, e3⟩, ⟨f1, f2, f3⟩, ⟨g1, g2⟩, h1⟩ := hR'
  have rel : Rel s a s' a' := ⟨nc, nt, fu, x, mem, pl, hR⟩
  have hB := MB_of (s' := s') c1 g1 g2
  unfold m_X_child m_M_child
  rw [X_isClass d0 c1, jb_s, M_isClass e1.1 c1, jb_s, ← d3]
  cases hc : jin p0 nc with
  | false => rw [if0f, if0f]; exact ⟨_, rfl, rfl, rel⟩
  | true =>
    obtain ⟨i, hi, rfl⟩ := jin_ex (by omega) hc
    rw [if0t, if0t]
    by_cases z : s 3 = 0
    · rw [if_pos z, if_pos z]; exact ⟨_, rfl, rfl, rel⟩
    rw [if_neg z, if_neg z]
    obtain ⟨h9, h10, h8⟩ := h1 (d4.resolve_left z)
    have hXP := XP_of c1 h9
    have hMP : MP (plP nc pl) a' := h8
    have hPi : plP nc pl i = pl i := by unfold plP; rw [decide_eq_true hi]; rfl
    unfold m_XO_isEmptyClass
    rw [x_has _ (by omega), jb_s, h10, b_bs _ (by omega), decide_eq_true hi, Bool.true_and, bI_jz, jg_t, jb_s]
    cases hp : pl i with
    | false =>
      refine ⟨-6, ?_, ?_, rel⟩
      · rw [show (!false) = true from rfl, if0t, jb_s, show (0 : Int32) = bs (fun _ => false) 20 by decide, x_first c1 g1.1 hXP, jb_s, x_pick, jb_s, nthN_none (fun k hk => by rw [b_bs _ (by decide)]; simp)]
      · show L_M_child_25 s' a' (nI i) p1 _ (4095 + 1) p1 (nI 0) = _
        rw [L_M_child_25, jg_nI (by omega) (by decide), nI_clamp (by omega), hMP i (by omega), hPi, hp, if0f]
        split
        · rfl
        · split <;> rfl
    | true =>
      rw [hp] at hPi
      refine ⟨nthN (chiB nc (plP nc pl) (Yb a) i) nc p1, ?_, ?_, rel⟩
      · rw [show (!true) = false from rfl, if0f, x_dBelow c1 g1.1 hXP plP_lt (by omega) hPi, jb_s, jb_s, x_first c1 g1.1 hXP, jb_s, x_pick, jb_s]
        congr 1
        refine nthN_ext (n := nc) (m := 21) (by omega) (fun k hk => ?_) (fun k h3 h4 => ?_) _
        · rw [b_bs _ (by decide), decide_eq_true (show k < 20 by omega), Bool.true_and]
          unfold chiB
          cases plP nc pl k <;> cases dirB nc (plP nc pl) (Yb a) k i <;> cases secB (plP nc pl) (Yb a) k <;> rfl
        · rw [b_bs _ (by decide)]
          have hk : plP nc pl k = false := by unfold plP; rw [decide_eq_false (by omega)]; rfl
          rw [hk]; simp
      · by_cases hi0 : p1 < 0
        · rw [← nthI_eq (by omega)]
          unfold nthI
          rw [if_pos hi0]
          show L_M_child_25 s' a' (nI i) p1 _ (4095 + 1) p1 (nI 0) = _
          rw [L_M_child_25, if_pos hi0]
          split <;> rfl
        · rw [← nthI_eq (by omega)]
          refine lp_nth (fun f z y => L_M_child_25 s' a' (nI i) p1 (fun _ => some (-6)) f z y) _ nc (by omega) p1 hi0 (fun z => some z) (fun f k z hk => ?_) (fun f z => ?_)
          · show L_M_child_25 s' a' (nI i) p1 _ (f + 1) z (nI k) = _
            rw [L_M_child_25, e1.1, if_neg (j_lt hk (by omega)), if_neg hi0, jg_nI (by omega) (by decide), nI_clamp (by omega), hMP i (by omega), hPi, if0t, jg_nI (by omega) (by decide), nI_clamp (by omega), hMP k (by omega), M_isSecond c1 hB hMP hk, jb_s, M_isDirect c1 e1.1 hB hMP (Or.inl hk) hi, jb_s, nI_1]
            refine jb_eq (v := bI (chiB nc (plP nc pl) (Yb a) i k)) ?_ ?_
            · unfold chiB
              cases plP nc pl k <;> cases secB (plP nc pl) (Yb a) k <;> cases dirB nc (plP nc pl) (Yb a) k i <;> rfl
            · exact mnth _ z _ (fun q => L_M_child_25 s' a' (nI i) p1 (fun _ => some (-6)) f q (nI (k + 1)))
          · show L_M_child_25 s' a' (nI i) p1 _ (f + 1) z (nI nc) = _
            rw [L_M_child_25, e1.1, if_pos (j_le (Nat.le_refl _) (by omega))]

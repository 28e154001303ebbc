/-! open -/
theorem div21 : ∀ n, n < 420 → nI n / 21 = nI (n / 21) ∧ nI n - nI n / 21 * 21 = nI (n % 21) := by decide +kernel
def opn (n : Nat) : Int32 := 32 * nI (n / 21) + (if n % 21 = 20 then 31 else nI (n % 21))
def opr (q : Nat → Bool) (i : Int32) : Int32 := match fstB (fun n => q n && decide (nI (cb q n) = i)) 420 with
  | some n => opn n
  | none => -6
theorem M_open (s : jS) (a : jB) (i : Int32) : m_M_open s a i = some (opr (fun n => decide (a 6 n = 2)) i) := by
  unfold m_M_open
  by_cases hi0 : i < 0
  · show L_M_open_4 s a i _ (4095 + 1) i (nI 0) = _
    rw [L_M_open_4, if_pos hi0]
    have : opr (fun n => decide (a 6 n = 2)) i = -6 := by
      unfold opr
      rw [fstB_none (fun j hj => ?_)]
      rw [Bool.and_eq_false_iff]
      right
      rw [decide_eq_false_iff_not]
      intro q
      have := cb_le (fun n => decide (a 6 n = 2)) j
      exact nI_pos (show cb (fun n => decide (a 6 n = 2)) j < 2 ^ 31 by omega) (by rw [q]; exact hi0)
    rw [this]
    split <;> rfl
  · have key := lp_nth (fun f z y => L_M_open_4 s a i (fun _ => some (-6)) f z y) (fun n => decide (a 6 n = 2)) 420 (by decide) i hi0 (fun z => if z = -6 then some (-6) else jb (if (z - z / 21 * 21) = (20 : Int32) then some (31 : Int32) else some (z - z / 21 * 21)) (fun b4 => some (32 * (z / 21) + b4))) (fun f k z hk => ?_) (fun f z => ?_)
    · refine key.trans ?_
      rw [nthI_eq (by decide)]
      unfold nthN opr
      obtain ⟨s1, s2⟩ := fstB_spec (fun n => decide (a 6 n = 2) && decide (nI (cb (fun n => decide (a 6 n = 2)) n) = i)) 420
      cases h : fstB (fun n => decide (a 6 n = 2) && decide (nI (cb (fun n => decide (a 6 n = 2)) n) = i)) 420 with
      | none => rfl
      | some n =>
        obtain ⟨h1, -, -⟩ := s1 n h
        obtain ⟨q1, q2⟩ := div21 n h1
        dsimp only
        rw [if_neg (nI_m6 (by omega)), q2, q1]
        unfold opn
        by_cases e : n % 21 = 20
        · rw [if_pos ((e20 (by omega)).mpr e), if_pos e]; rfl
        · rw [if_neg (fun q => e ((e20 (by omega)).mp q)), if_neg e]; rfl
    · show L_M_open_4 s a i _ (f + 1) z (nI k) = _
      rw [L_M_open_4, if_neg (show ¬ (420 : Int32) ≤ nI k from j_lt (n := 420) hk (by decide)), if_neg hi0, jg_nI hk (by decide), nI_clamp (by omega), nI_1, if_neg (nI_m6 (show k < 2 ^ 31 by omega))]
      refine jb_eq (v := bI (decide (a 6 k = 2))) ?_ ?_
      · by_cases e : a 6 k = 2
        · rw [if_pos e, decide_eq_true e]; rfl
        · rw [if_neg e, decide_eq_false e]; rfl
      · exact mnth _ z _ (fun q => L_M_open_4 s a i (fun _ => some (-6)) f q (nI (k + 1)))
    · show L_M_open_4 s a i _ (f + 1) z (nI 420) = _
      rw [L_M_open_4, if_pos (show (420 : Int32) ≤ nI 420 by decide), if_pos rfl]
theorem j_cancel (x y z : Int32) : x = z - y ↔ y + x = z := by
  constructor
  · rintro rfl; grind
  · rintro rfl; grind
theorem s_open : sim_open Rel := by
  rintro s a s' a' p0 ⟨nc, nt, fu, x, mem, pl, hR⟩
  have hR' := hR
  obtain ⟨⟨c1, c2, c3, c4⟩, ⟨d0, d1, d2, d3, d4, d5, d6, d7⟩, ⟨e1, e2, e3⟩, ⟨f1, f2, f3⟩, ⟨g1, g2⟩, h1⟩ := hR'
  have rel : Rel s a s' a' := ⟨nc, nt, fu, x, mem, pl, hR⟩
  refine ⟨_, ?_, M_open s' a' p0, rel⟩
  have qeq : ∀ k j, k < 20 → j < 21 → decide (a' 6 (21 * k + j) = 2) = bt (a 10 k) j := by
    intro k j hk hj
    rw [Bool.eq_iff_iff, decide_eq_true_eq, o_iff g1 g2 hk hj]
    exact ⟨fun q => q.2, fun q => ⟨by omega, q⟩⟩
  have qnc : ∀ n, 21 * nc ≤ n → n < 420 → decide (a' 6 n = 2) = false := by
    intro n h1 h2
    rw [← Nat.div_add_mod n 21, decide_eq_false_iff_not, o_iff g1 g2 (by omega) (by omega)]
    intro q
    have := g1.2.2.2.2.2.2.2 _ _ q
    omega
  generalize hq : (fun n => decide (a' 6 n = 2)) = q
  have qv : ∀ n, q n = decide (a' 6 n = 2) := fun n => by rw [← hq]
  have cbr : ∀ k j, k < 20 → j ≤ 21 → cb q (21 * k + j) = cb q (21 * k) + cb (bt (a 10 k)) j := by
    intro k j hk hj
    rw [cb_add]
    congr 1
    exact cb_congr (fun m hm => by rw [qv, qeq k m hk (by omega)])
  unfold m_X_open
  refine lp_out0 (fun f z y => L_X_open_4 s a (fun _ => some (-6)) f z y) (fun k z => z = p0 - nI (cb q (21 * k)) ∧ ∀ n, n < 21 * k → (q n && decide (nI (cb q n) = p0)) = false) nc (fun o => o = some (opr q p0)) (by omega) ?_ ?_ p0 ?_
  · intro f k z hk hI
    show (∃ st', _ ∧ L_X_open_4 s a (fun _ => some (-6)) (f + 1) z (nI k) = _) ∨ L_X_open_4 s a (fun _ => some (-6)) (f + 1) z (nI k) = _
    obtain ⟨i1, i2⟩ := hI
    rw [L_X_open_4, d0, if_neg (j_lt hk (by omega)), show m_XK_openOf s a (nI k) = some (a 10 k) by unfold m_XK_openOf; rw [jg_nI (by omega) (by decide), nI_clamp (by omega)], jb_s, x_pick, jb_s]
    have hit : ∀ j, j < 21 → (q (21 * k + j) && decide (nI (cb q (21 * k + j)) = p0)) = (bt (a 10 k) j && decide (nI (cb (bt (a 10 k)) j) = z)) := by
      intro j hj
      rw [qv, qeq k j (by omega) hj]
      congr 1
      rw [cbr k j (by omega) (by omega), ← nI_add, i1, decide_eq_decide, j_cancel]
    have st : nthN (bt (a 10 k)) 21 z = match fstB (fun j => bt (a 10 k) j && decide (nI (cb (bt (a 10 k)) j) = z)) 21 with
      | some k => nI k
      | none => -6 := rfl
    obtain ⟨s1, s2⟩ := fstB_spec (fun j => bt (a 10 k) j && decide (nI (cb (bt (a 10 k)) j) = z)) 21
    cases h : fstB (fun j => bt (a 10 k) j && decide (nI (cb (bt (a 10 k)) j) = z)) 21 with
    | none =>
      rw [h] at st
      rw [st, if_pos rfl, x_bitCount (fun i hi => by
        cases e : bt (a 10 k) i with
        | false => rfl
        | true => have := hr_lt c1 (g1.1.2.2.2.2 k i ⟨by omega, e⟩).2; omega), jb_s, nI_1]
      refine Or.inl ⟨z - nI (cb (bt (a 10 k)) 21), ⟨?_, ?_⟩, rfl⟩
      · rw [i1, j_ss, nI_add, ← cbr k 21 (by omega) (by omega)]
        rfl
      · intro n hn
        by_cases e : n < 21 * k
        · exact i2 n e
        · have := hit (n - 21 * k) (by omega)
          rw [show 21 * k + (n - 21 * k) = n by omega] at this
          rw [this]
          exact s2 h (n - 21 * k) (by omega)
    | some j =>
      obtain ⟨w1, w2, w3⟩ := s1 j h
      rw [h] at st
      rw [st]
      dsimp only
      rw [if_neg (nI_m6 (by omega))]
      right
      have : fstB (fun n => q n && decide (nI (cb q n) = p0)) 420 = some (21 * k + j) := by
        refine fstB_some (by omega) ?_ (fun n hn => ?_)
        · rw [hit j w1]; exact w2
        · by_cases e : n < 21 * k
          · exact i2 n e
          · have := hit (n - 21 * k) (by omega)
            rw [show 21 * k + (n - 21 * k) = n by omega] at this
            rw [this]
            exact w3 (n - 21 * k) (by omega)
      unfold opr
      rw [this]
      dsimp only
      unfold opn
      rw [show (21 * k + j) / 21 = k by omega, show (21 * k + j) % 21 = j by omega]
      by_cases e : j = 20
      · rw [if_pos ((e20 (by omega)).mpr e), if_pos e]; rfl
      · rw [if_neg (fun q => e ((e20 (by omega)).mp q)), if_neg e]; rfl
  · intro f z hI
    show L_X_open_4 s a (fun _ => some (-6)) (f + 1) z (nI nc) = _
    rw [L_X_open_4, d0, if_pos (j_le (Nat.le_refl _) (by omega))]
    unfold opr
    rw [fstB_none (fun n hn => ?_)]
    by_cases e : n < 21 * nc
    · exact hI.2 n e
    · rw [qv, qnc n (by omega) hn]; rfl
  · exact ⟨by rw [show nI (cb q (21 * 0)) = 0 from rfl, Int32.sub_zero], fun n hn => by omega⟩

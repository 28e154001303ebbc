/-! the beginning -/
def x0 : jAx := (0, fun _ => 0, fun _ => 0, fun _ => 0, fun _ => false)
theorem a0_78 : a0X 7 = upd (fun _ => 0) 20 (b1 20) ∧ a0X 8 = upd (fun _ => 0) 20 (b1 20) := ⟨rfl, rfl⟩
theorem a0_bt (i j : Nat) : bt (upd (fun _ => (0 : Int32)) 20 (b1 20) i) j = true ↔ i = 20 ∧ j = 20 := by
  by_cases e : i = 20
  · rw [e, upd_at, b_b1 (by decide), decide_eq_true_eq]
    exact ⟨fun q => ⟨rfl, q⟩, fun q => q.2⟩
  · rw [upd_ne _ _ e, b_0]
    exact ⟨(fun q => absurd q (by decide)), fun q => absurd q.1 e⟩
theorem h0_rel (f : Nat → Int32) (hf : ∀ j, j < 420 → f j = 3) : Rel s0X a0X s0M (a0M f) := by
  have Y0 : ∀ i j, Yx a0X i j ↔ i = 20 ∧ j = 20 := by
    intro i j
    unfold Yx
    rw [a0_78.1, a0_bt]
    exact ⟨fun q => q.2, fun q => ⟨by omega, q⟩⟩
  have N0 : ∀ i j, ¬ Nx a0X i j := by
    rintro i j ⟨_, q⟩
    have q : bt 0 j = true := q
    rw [b_0] at q; cases q
  have O0 : ∀ i j, ¬ Ox a0X i j := by
    rintro i j ⟨_, q⟩
    have q : bt 0 j = true := q
    rw [b_0] at q; cases q
  refine ⟨0, 0, 20, x0, fun _ _ => false, fun _ => false, ⟨by decide, by decide, by decide, fun k hk => absurd hk (Nat.not_lt_zero k)⟩, ⟨rfl, rfl, rfl, rfl, Or.inl rfl, ⟨rfl, by decide, fun k hk => absurd hk (Nat.not_lt_zero k)⟩, rfl, rfl⟩, ⟨⟨rfl, by decide, rfl, by decide, fun k hk => absurd hk (Nat.not_lt_zero k)⟩, rfl, rfl⟩, ⟨fun t _ => ?_, fun t c _ _ => rfl, fun t c q => by cases q⟩, ⟨⟨⟨?_, ?_, ?_, fun i j q => absurd q (N0 i j), fun i j q => absurd q (O0 i j)⟩, ⟨?_, ?_, ?_⟩, fun i j hi => absurd hi (Nat.not_lt_zero i), fun p q c d h => absurd h (N0 p q), fun i j q => absurd q (O0 i j), ?_, fun i j q => absurd q (N0 i j), fun i j q => absurd q (O0 i j)⟩, ?_, fun i j hi => absurd hi (Nat.not_lt_zero i)⟩, fun q => absurd q (by show ¬ (0 : Int32) = 1; decide)⟩
  · show (0 : Int32) = bs (fun _ => false) 20
    decide
  · intro i j hi hj
    rw [a0_78.1, a0_78.2, Bool.eq_iff_iff, a0_bt, a0_bt]
    exact ⟨fun q => ⟨q.2, q.1⟩, fun q => ⟨q.2, q.1⟩⟩
  · intro j i hj q
    rw [a0_78.2, a0_bt] at q
    omega
  · intro i j q
    rw [Y0] at q
    exact ⟨Or.inr q.1, Or.inr q.2⟩
  · intro i hi
    rw [Y0]
    rcases hi with q | q
    · exact absurd q (Nat.not_lt_zero i)
    · exact ⟨q, q⟩
  · intro j hj
    rw [Y0]
    rcases hj with q | q
    · exact absurd q (Nat.not_lt_zero j)
    · exact ⟨rfl, q⟩
  · intro i j k h1 h2
    rw [Y0] at h1 h2 ⊢
    exact ⟨h1.1, h2.2⟩
  · intro i j q
    rw [Y0] at q
    rw [q.1, q.2]
    exact fun F _ h => Or.inl h
  · intro i j hi hj
    left
    exact hf _ (by omega)
theorem sim_all : SimAll Rel := ⟨s_class0, s_thing, s_axiom, s_remove, s_fuel, s_known, s_ask, s_run, s_parent, s_child, s_equal, s_empty, s_open, s_put, s_type, s_trace, s_count⟩

set_option maxRecDepth 100000 in
set_option maxHeartbeats 4000000 in
theorem whole_of {Rel : jRel} (h0 : ∀ f : Nat → Int32, (∀ j, j < 420 → f j = 3) → Rel s0X a0X s0M (a0M f)) (hsim : SimAll Rel) {p : Program} {e : Env} {s : State} {m : MethodId} {below : List Frame} {meth : Method} {c : Code} (l : Launch) {b L : Nat} {xs : Nat → Int32} (hL : L ≤ 2048) (C0 : lw_At p s m meth c b L xs) : W p l e room_1 s m #[Value.ref b] below meth c s.heap [] 0 0 (lw_Z below #[Value.ref b] s) (entryFrame m ([Value.ref b] : List Value).toArray 4) := by
  obtain ⟨hx, hb, hr, hml, hown, hts, hX, hbl, hlocks, hgv⟩ := id C0
  have htsG : ∀ w ∈ TsG, w.before #[Value.ref b] s = true := fun w hw => hts w (tsG_in w hw)
  have hN : jN NsG s := fun q hq => va_Nw.of rfl (hts _ (nsG_in q hq))
  obtain ⟨c0, iS0, hKn0⟩ := u_known (C := "ClassifySort") (T := T_X) (N := 9) (n := 9) htsG in_0 (htsG _ ts_551)
  obtain ⟨c1, iS1, hKn1⟩ := u_known (C := "ClassifySort$Axioms") (T := T_XA) (N := 4) (n := 4) htsG in_1 (htsG _ ts_394)
  obtain ⟨c2, iS2, hKn2⟩ := u_known (C := "ClassifySort$Reasoner") (T := T_XR) (N := 5) (n := 5) htsG in_2 (htsG _ ts_398)
  obtain ⟨c3, iS3, hKn3⟩ := u_known (C := "ClassifySort$Knowledge") (T := T_XK) (N := 4) (n := 4) htsG in_3 (htsG _ ts_403)
  obtain ⟨c4, iS4, hKn4⟩ := u_known (C := "ClassifySort$Order") (T := T_XO) (N := 5) (n := 5) htsG in_4 (htsG _ ts_408)
  obtain ⟨c5, iS5, hKn5⟩ := u_known (C := "ClassifySortModel") (T := T_M) (N := 23) (n := 23) htsG in_5 (htsG _ ts_556)
  obtain ⟨dC, dI, hKc⟩ : ∃ (dC : Nat → ClassId) (dI : Nat → Nat → Nat), ∀ (k : Nat) (q : vw_C), vwCl[k]? = some q → u_Kn s q.1 q.2.1 q.2.2 (dC k) (dI k) := by
    refine ⟨fun k => [c0, c1, c2, c3, c4, c5].getD k 0, fun k => [iS0, iS1, iS2, iS3, iS4, iS5].getD k (fun _ => 0), ?_⟩
    intro k q hq
    match k, hq with
    | 0, hq => cases hq; exact hKn0
    | 1, hq => cases hq; exact hKn1
    | 2, hq => cases hq; exact hKn2
    | 3, hq => cases hq; exact hKn3
    | 4, hq => cases hq; exact hKn4
    | 5, hq => cases hq; exact hKn5
    | k + 6, hq => simp [vwCl] at hq
  obtain ⟨aI, kI, compI, fI, gI, eI⟩ := Cond.arrayClass_spec (htsG (.arrayClass .int) ts_388)
  obtain ⟨aZ, kZ0, compZ, fZ, gZ, eZ⟩ := Cond.arrayClass_spec (htsG (.arrayClass .boolean) ts_413)
  have hK : va_K (dC, dI) vwCl (jT (fun k => if k = 0 then aI else aZ)) s := by
    refine ⟨hKc, fun k q hq => ?_⟩
    match k, hq with
    | 0, hq => cases hq; exact ⟨fun n z => ⟨fun k h => (by cases h), kI, gI, compI, eI⟩, fI⟩
    | 1, hq => cases hq; exact ⟨fun n z => ⟨fun k h => (by cases h), kZ0, gZ, compZ, eZ⟩, fZ⟩
    | k + 2, hq => simp [jT] at hq
  have hl := lv_entry ([.ref b]) (n := 4) (Nat.le_of_ble_eq_true rfl)
  rw [lg_entry_eq]
  exact law_start h0 hsim l meth.name (dC, dI) _ b L xs hL p e s m _ below meth c s.heap [] (fun q => s.heap.size ≤ q) _ ⟨hx, hb, hr, hml, hlocks, rfl, hown, htsG, hN, hK, fun k q h => by simp at h, ⟨fun i j p q h => by simp at h, fun k q h => by simp at h⟩, va_S.rf, fun _ h => h, ⟨hX, hbl, Nat.not_le.mpr hbl, fun _ h => h⟩, hl.1, hl.2.1, fun q hq => hl.2.2 q hq⟩

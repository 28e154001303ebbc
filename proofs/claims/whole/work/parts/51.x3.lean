/-! the class: touched, forgetting -/
theorem b_lfI {nc : Nat} (hn : nc ≤ 20) {x : jAx} (hw : Axw nc x) {k : Nat} (hk : k < x.1) (c : Nat) : bt (lfI x k) c = true ↔ x.2.2.2.2 k = true ∧ (c = x.2.1 k ∨ (x.2.2.1 k ≠ 20 ∧ c = x.2.2.1 k)) := by
  obtain ⟨w1, w2, w3, w4⟩ := hw k hk
  unfold lfI
  by_cases t : x.2.2.2.2 k = true
  · rw [if_pos t]
    by_cases o : x.2.2.1 k = 20
    · rw [if_pos o, b_b1 (by omega)]
      simp [t, o]
    · rw [if_neg o, b_or, b_b1 (by omega), b_b1 (by omega)]
      simp [t, o]
  · rw [if_neg t, b_0]
    simp [t]
theorem lfI_z {nc : Nat} (hn : nc ≤ 20) {x : jAx} (hw : Axw nc x) {k : Nat} (hk : k < x.1) : lfI x k = 0 ↔ ¬ x.2.2.2.2 k = true := by
  constructor
  · intro h t
    have := (b_lfI hn hw hk (x.2.1 k)).mpr ⟨t, Or.inl rfl⟩
    rw [h, b_0] at this
    cases this
  · intro t
    unfold lfI
    rw [if_neg t]
/-- the left of an axiom that a set meets is in it -/
def clsd (x : jAx) (z : Int32) (m : Nat) : Prop := x.2.2.2.2 m = true → (bt z (x.2.1 m) = true ∨ (x.2.2.1 m ≠ 20 ∧ bt z (x.2.2.1 m) = true) ∨ bt z (x.2.2.2.1 m) = true) → bt z (x.2.1 m) = true ∧ (x.2.2.1 m ≠ 20 → bt z (x.2.2.1 m) = true)
theorem x_touch_pass {nc : Nat} (hn : nc ≤ 20) {s : jS} {a : jB} {x : jAx} (hw : Axw nc x) (hA : XA s a x) {k0 : Nat} {z0 : Int32} (h0 : ∀ c, bt z0 c = true → Tch x k0 c) (kk : Int32 → Option Int32) :
    ∃ z, (∀ c, bt z c = true → Tch x k0 c) ∧ (∀ c, bt z0 c = true → bt z c = true) ∧ ((z = z0 ∧ ∀ m, m < x.1 → clsd x z0 m) ∨ cb (bt z0) 20 < cb (bt z) 20) ∧ L_XA_touchedBy_20 s a kk jF z0 0 = kk z := by
  obtain ⟨A1, A2, A3⟩ := id hA
  have key := lp_out0 (fun f (z : Int32) y => L_XA_touchedBy_20 s a kk f z y) (fun n z => (∀ c, bt z c = true → Tch x k0 c) ∧ (∀ c, bt z0 c = true → bt z c = true) ∧ ((z = z0 ∧ ∀ m, m < n → clsd x z0 m) ∨ cb (bt z0) 20 < cb (bt z) 20)) x.1 (fun o => ∃ z, (∀ c, bt z c = true → Tch x k0 c) ∧ (∀ c, bt z0 c = true → bt z c = true) ∧ ((z = z0 ∧ ∀ m, m < x.1 → clsd x z0 m) ∨ cb (bt z0) 20 < cb (bt z) 20) ∧ o = kk z) (by omega) ?_ ?_ z0 ⟨h0, fun _ h => h, Or.inl ⟨rfl, fun m hm => absurd hm (by omega)⟩⟩
  · exact key
  · intro f n z hnx ⟨q1, q2, q3⟩
    left
    obtain ⟨w1, w2, w3, w4⟩ := hw n hnx
    have hr21 := hr_lt hn w3
    have hmeet : ((lfI x n ||| b1 (x.2.2.2.1 n)) &&& z) = 0 ↔ ¬ (∃ c, c < 32 ∧ ((bt (lfI x n) c = true ∨ c = x.2.2.2.1 n) ∧ bt z c = true)) := by
      rw [b_z]
      constructor
      · rintro h ⟨c, hc, h1, h2⟩
        have := h c hc
        rw [b_and, b_or, b_b1 (by omega), h2] at this
        rcases h1 with h1 | h1
        · rw [h1] at this; cases this
        · simp [h1] at this
      · intro h c hc
        rw [b_and, b_or, b_b1 (by omega)]
        cases e : bt z c with
        | false => simp
        | true =>
          have : ¬ (bt (lfI x n) c = true ∨ c = x.2.2.2.1 n) := fun q => h ⟨c, hc, q, e⟩
          simp only [not_or, Bool.not_eq_true] at this
          simp [this.1, this.2]
    have turn : L_XA_touchedBy_20 s a kk (f + 1) z (nI n) = L_XA_touchedBy_20 s a kk f (if lfI x n = 0 then z else if ((lfI x n ||| b1 (x.2.2.2.1 n)) &&& z) = 0 then z else z ||| lfI x n) (nI (n + 1)) := by
      rw [L_XA_touchedBy_20, A1, if_neg (j_lt hnx (by omega)), nI_1]
      simp only [jg_nI (show n < 40 by omega) (show 40 < 2 ^ 31 by decide), nI_clamp (show n < 2 ^ 31 by omega), (A3 n hnx).1, (A3 n hnx).2, x_bit, jb_s]
      by_cases e1 : lfI x n = 0
      · rw [if_pos e1, if_pos e1]
      · rw [if_neg e1, if_neg e1]
        by_cases e2 : ((lfI x n ||| b1 (x.2.2.2.1 n)) &&& z) = 0
        · rw [if_pos e2, if_pos e2]
        · rw [if_neg e2, if_neg e2]
    refine ⟨_, ?_, turn⟩
    by_cases e1 : lfI x n = 0
    · rw [if_pos e1]
      refine ⟨q1, q2, q3.imp (fun r => ⟨r.1, fun m hm => ?_⟩) id⟩
      by_cases e : m = n
      · subst e
        intro t
        exact absurd t ((lfI_z hn hw hnx).mp e1)
      · exact r.2 m (by omega)
    · rw [if_neg e1]
      have t : x.2.2.2.2 n = true := Classical.byContradiction (fun q => e1 ((lfI_z hn hw hnx).mpr q))
      by_cases e2 : ((lfI x n ||| b1 (x.2.2.2.1 n)) &&& z) = 0
      · rw [if_pos e2]
        refine ⟨q1, q2, q3.imp (fun r => ⟨r.1, fun m hm => ?_⟩) id⟩
        by_cases e : m = n
        · subst e
          intro _ h
          have := hmeet.mp e2
          rw [r.1] at this
          exact absurd (by
            rcases h with h | ⟨h5, h⟩ | h
            · exact ⟨x.2.1 m, by omega, Or.inl ((b_lfI hn hw hnx _).mpr ⟨t, Or.inl rfl⟩), h⟩
            · exact ⟨x.2.2.1 m, by omega, Or.inl ((b_lfI hn hw hnx _).mpr ⟨t, Or.inr ⟨h5, rfl⟩⟩), h⟩
            · exact ⟨x.2.2.2.1 m, by omega, Or.inr rfl, h⟩) this
        · exact r.2 m (by omega)
      · rw [if_neg e2]
        have hm : ∃ c, c < 32 ∧ ((bt (lfI x n) c = true ∨ c = x.2.2.2.1 n) ∧ bt z c = true) := Classical.byContradiction (fun q => e2 (hmeet.mpr q))
        obtain ⟨c0, hc0, hc1, hc2⟩ := hm
        have hT := Tch_bck x k0 n hnx t (by
          rcases hc1 with hc1 | hc1
          · rcases ((b_lfI hn hw hnx c0).mp hc1).2 with e | e
            · left; rw [← e]; exact q1 c0 hc2
            · right; left; exact ⟨e.1, by rw [← e.2]; exact q1 c0 hc2⟩
          · right; right; rw [← hc1]; exact q1 c0 hc2)
        have hin : ∀ c, bt (lfI x n) c = true → Tch x k0 c := by
          intro c hc
          rcases ((b_lfI hn hw hnx c).mp hc).2 with e | e
          · rw [e]; exact hT.1
          · rw [e.2]; exact hT.2 e.1
        refine ⟨fun c hc => ?_, fun c hc => by rw [b_or, q2 c hc]; rfl, ?_⟩
        · rw [b_or, Bool.or_eq_true] at hc
          exact hc.elim (q1 c) (hin c)
        · by_cases hsub : ∀ c, bt (lfI x n) c = true → bt z c = true
          · have ez : z ||| lfI x n = z := b_ext (fun c _ => by
              rw [b_or]
              cases e : bt z c with
              | true => rfl
              | false =>
                cases e3 : bt (lfI x n) c with
                | false => rfl
                | true => rw [hsub c e3] at e; cases e)
            rw [ez]
            refine q3.imp (fun r => ⟨r.1, fun m hm => ?_⟩) id
            by_cases e : m = n
            · subst e
              intro _ _
              rw [← r.1]
              exact ⟨hsub _ ((b_lfI hn hw hnx _).mpr ⟨t, Or.inl rfl⟩), fun h5 => hsub _ ((b_lfI hn hw hnx _).mpr ⟨t, Or.inr ⟨h5, rfl⟩⟩)⟩
            · exact r.2 m (by omega)
          · right
            have hex : ∃ c, bt (lfI x n) c = true ∧ bt z c = false := by
              refine Classical.byContradiction (fun q => hsub (fun c hc => ?_))
              cases e : bt z c with
              | true => rfl
              | false => exact absurd ⟨c, hc, e⟩ q
            obtain ⟨c, hc, hz⟩ := hex
            have hc20 : c < 20 := by rcases ((b_lfI hn hw hnx c).mp hc).2 with e | e <;> omega
            have hlt : cb (bt z) 20 < cb (bt (z ||| lfI x n)) 20 := cb_lt (fun d _ hd => by rw [b_or, hd]; rfl) hc20 hz (by rw [b_or, hc]; simp)
            rcases q3 with r | r
            · rw [r.1] at hlt ⊢; exact hlt
            · omega
  · intro f z ⟨q1, q2, q3⟩
    refine ⟨z, q1, q2, q3, ?_⟩
    rw [L_XA_touchedBy_20, A1, if_pos (j_le (Nat.le_refl _) (by omega))]
theorem x_touchedBy {nc : Nat} (hn : nc ≤ 20) {s : jS} {a : jB} {x : jAx} (hw : Axw nc x) (hA : XA s a x) {k0 : Nat} (hk0 : k0 < x.1) (ht0 : x.2.2.2.2 k0 = true) :
    ∃ z, (∀ c, bt z c = true ↔ Tch x k0 c) ∧ m_XA_touchedBy s a (nI k0) = some z := by
  unfold m_XA_touchedBy
  have A2 := hA.2.1
  rw [x_leftOf hA (by omega), jb_s, if_pos hk0]
  have hstart : ∀ c, bt (lfI x k0) c = true → Tch x k0 c := by
    intro c hc T hT h1 h2
    rcases ((b_lfI hn hw hk0 c).mp hc).2 with e | e
    · rw [e]; exact h1
    · rw [e.2]; exact h2 e.1
  have hT20 : ∀ c, Tch x k0 c → c < 20 := by
    intro c h
    have hb : Bck x (fun c => c < 20) := fun k hk _ _ => by
      obtain ⟨w1, w2, w3, w4⟩ := hw k hk
      exact ⟨by omega, fun h0 => by omega⟩
    obtain ⟨w1, w2, w3, w4⟩ := hw k0 hk0
    exact h (fun c => c < 20) hb (by omega) (fun h0 => by omega)
  have w1 := (hw k0 hk0).1
  have key := lp_out0 (fun f (z : Int32) y => L_XA_touchedBy_8 s a (fun x12 => some x12) f z y) (fun n z => (∀ c, bt z c = true → Tch x k0 c) ∧ (∀ c, bt (lfI x k0) c = true → bt z c = true) ∧ n < cb (bt z) 20) 20 (fun o => ∃ z, (∀ c, bt z c = true ↔ Tch x k0 c) ∧ o = some z) (by decide) ?_ ?_ (lfI x k0) ⟨hstart, fun _ h => h, ?_⟩
  · exact key
  · intro f n z hn20 ⟨q1, q2, q3⟩
    obtain ⟨z1, r1, r2, r3, r4⟩ := x_touch_pass hn hw hA q1 (fun x5 => if x5 = z then some x5 else L_XA_touchedBy_8 s a (fun x12 => some x12) f x5 (nI n + 1))
    have turn : L_XA_touchedBy_8 s a (fun x12 => some x12) (f + 1) z (nI n) = if z1 = z then some z1 else L_XA_touchedBy_8 s a (fun x12 => some x12) f z1 (nI n + 1) := by
      rw [L_XA_touchedBy_8, if_neg (show ¬ (20 : Int32) ≤ nI n from j_lt (n := 20) hn20 (by decide)), r4]
    rcases r3 with r3 | r3
    · right
      rw [turn, if_pos r3.1, r3.1]
      refine ⟨z, fun c => ⟨q1 c, fun h => ?_⟩, rfl⟩
      refine h (fun c => bt z c = true) ?_ (q2 _ ((b_lfI hn hw hk0 _).mpr ⟨ht0, Or.inl rfl⟩)) (fun h5 => q2 _ ((b_lfI hn hw hk0 _).mpr ⟨ht0, Or.inr ⟨h5, rfl⟩⟩))
      intro m hm t h
      exact r3.2 m hm t h
    · left
      refine ⟨z1, ⟨r1, fun c hc => r2 c (q2 c hc), by omega⟩, ?_⟩
      rw [turn, if_neg (fun e => by rw [e] at r3; omega), nI_1]
  · intro f z ⟨q1, q2, q3⟩
    have := cb_le (bt z) 20
    omega
  · have h : cb (fun _ => false) 20 = 0 := by decide
    rw [← h]
    exact cb_lt (fun c _ q => by cases q) (show x.2.1 k0 < 20 by omega) rfl ((b_lfI hn hw hk0 _).mpr ⟨ht0, Or.inl rfl⟩)
/-- the rows of the touched lose what is NO and OPEN -/
theorem x_forgetNo {s : jS} {a : jB} {z : Int32} {T : Nat → Prop} (hz : ∀ c, bt z c = true ↔ T c) :
    ∃ g9 g10, m_XK_forgetNo s a z = some (s, va_up (va_up a 9 g9) 10 g10) ∧ ∀ c, c < 21 → (T c ∧ c < 20 → g9 c = 0 ∧ g10 c = 0) ∧ (¬ (T c ∧ c < 20) → g9 c = a 9 c ∧ g10 c = a 10 c) := by
  unfold m_XK_forgetNo
  have e0 : va_up (va_up a 9 (a 9)) 10 (a 10) = a := by rw [up_id, up_id]
  have key := lp_out0 (fun f (st : (Nat → Int32) × (Nat → Int32)) y => L_XK_forgetNo_2 z (fun s3 a4 => some (s3, a4)) f s (va_up (va_up a 9 st.1) 10 st.2) y) (fun k st => ∀ c, c < 21 → (T c ∧ c < k → st.1 c = 0 ∧ st.2 c = 0) ∧ (¬ (T c ∧ c < k) → st.1 c = a 9 c ∧ st.2 c = a 10 c)) 20 (fun o => ∃ g9 g10, o = some (s, va_up (va_up a 9 g9) 10 g10) ∧ ∀ c, c < 21 → (T c ∧ c < 20 → g9 c = 0 ∧ g10 c = 0) ∧ (¬ (T c ∧ c < 20) → g9 c = a 9 c ∧ g10 c = a 10 c)) (by decide) ?_ ?_ (a 9, a 10) ?_
  · rw [e0] at key; exact key
  · intro f k st hk hI
    left
    have e9 : ∀ p, va_up (va_up (va_up a 9 st.1) 10 st.2) 9 p = va_up (va_up a 9 p) 10 st.2 := fun p => by rw [up_comm (va_up a 9 st.1) (show (10 : Nat) ≠ 9 by decide), up_up]
    refine ⟨(if bt z k = true then upd st.1 k 0 else st.1, if bt z k = true then upd st.2 k 0 else st.2), ?_, ?_⟩
    · intro c hc
      dsimp only
      by_cases t : bt z k = true
      · rw [if_pos t, if_pos t]
        unfold upd
        by_cases e : c = k
        · rw [if_pos e, if_pos e]
          exact ⟨fun _ => ⟨rfl, rfl⟩, fun q => absurd ⟨by rw [e]; exact (hz k).mp t, by omega⟩ q⟩
        · rw [if_neg e, if_neg e]
          exact ⟨fun q => (hI c hc).1 ⟨q.1, by omega⟩, fun q => (hI c hc).2 (fun r => q ⟨r.1, by omega⟩)⟩
      · rw [if_neg t, if_neg t]
        refine ⟨fun q => (hI c hc).1 ⟨q.1, ?_⟩, fun q => (hI c hc).2 (fun r => q ⟨r.1, by omega⟩)⟩
        by_cases e : c = k
        · subst e; exact absurd ((hz c).mpr q.1) t
        · omega
    · rw [L_XK_forgetNo_2, if_neg (show ¬ (20 : Int32) ≤ nI k from j_lt (n := 20) hk (by decide)), x_has z (by omega), jb_s, nI_1]
      simp only [bI_z, jg_nI (show k < 21 by omega) (show 21 < 2 ^ 31 by decide), nI_clamp (show k < 2 ^ 31 by omega), up_ne _ _ (show (9 : Nat) ≠ 10 by decide), up_ne _ _ (show (10 : Nat) ≠ 9 by decide), up_self, up_up, e9]
      cases bt z k <;> simp
  · intro f st hI
    refine ⟨st.1, st.2, ?_, hI⟩
    show L_XK_forgetNo_2 _ _ (f + 1) s _ (nI 20) = _
    rw [L_XK_forgetNo_2, if_pos (by decide)]
  · intro c hc
    exact ⟨fun q => absurd q.2 (by omega), fun _ => ⟨rfl, rfl⟩⟩

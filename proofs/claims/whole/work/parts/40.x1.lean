/-! the class: sets, what is known -/
theorem x_bit {k : Nat} : m_X_bit (nI k) = some (b1 k) := rfl
theorem x_has (z : Int32) {k : Nat} (hk : k < 32) : m_X_has z (nI k) = some (bI (bt z k)) := by
  unfold m_X_has
  rw [x_bit, jb_s]
  cases h : bt z k with
  | false => rw [if_pos ((b_hit hk).mpr h)]; rfl
  | true => rw [if_neg (fun q => by rw [(b_hit hk).mp q] at h; cases h)]; rfl
def Yx (a : jB) (i j : Nat) : Prop := i < 21 ∧ bt (a 7 i) j = true
def Nx (a : jB) (i j : Nat) : Prop := i < 21 ∧ bt (a 9 i) j = true
def Ox (a : jB) (i j : Nat) : Prop := i < 21 ∧ bt (a 10 i) j = true
/-- all bits stand where something is; 'below' is 'above' turned round -/
def Xs (nc : Nat) (a : jB) : Prop := (∀ i j, i < 21 → j < 21 → bt (a 8 j) i = bt (a 7 i) j) ∧ (∀ j i, j < 21 → bt (a 8 j) i = true → i < 21) ∧ (∀ i j, Yx a i j → hr nc i ∧ hr nc j) ∧ (∀ i j, Nx a i j → hr nc i ∧ hr nc j) ∧ ∀ i j, Ox a i j → hr nc i ∧ hr nc j
theorem Xs_b {nc : Nat} {a : jB} (h : Xs nc a) {i j : Nat} (hj : j < 21) : bt (a 8 j) i = true ↔ Yx a i j := by
  constructor
  · intro q
    have hi := h.2.1 j i hj q
    exact ⟨hi, by rw [← h.1 i j hi hj]; exact q⟩
  · intro q
    rw [h.1 i j q.1 hj]; exact q.2
def uni (rows : Nat → Int32) (w : Int32) : Nat → Int32
  | 0 => 0
  | n + 1 => if bt w n = true then uni rows w n ||| rows n else uni rows w n
theorem b_uni (rows : Nat → Int32) (w : Int32) (j : Nat) : ∀ n, bt (uni rows w n) j = true ↔ ∃ c, c < n ∧ bt w c = true ∧ bt (rows c) j = true := by
  intro n
  induction n with
  | zero => simp [uni, b_0]
  | succ n ih =>
    rw [uni]
    by_cases h : bt w n = true
    · rw [if_pos h, b_or, Bool.or_eq_true, ih]
      constructor
      · rintro (⟨c, h1, h2⟩ | h2)
        · exact ⟨c, by omega, h2⟩
        · exact ⟨n, by omega, h, h2⟩
      · rintro ⟨c, h1, h2, h3⟩
        by_cases e : c = n
        · subst e; exact Or.inr h3
        · exact Or.inl ⟨c, by omega, h2, h3⟩
    · rw [if_neg h, ih]
      constructor
      · rintro ⟨c, h1, h2⟩; exact ⟨c, by omega, h2⟩
      · rintro ⟨c, h1, h2, h3⟩
        by_cases e : c = n
        · subst e; exact absurd h2 h
        · exact ⟨c, by omega, h2, h3⟩
theorem x_union9 (s : jS) (a : jB) (w : Int32) : m_XK_union_9 s a w = some (uni (a 9) w 21) := by
  unfold m_XK_union_9
  refine lp_up0 (fun f st z => L_XK_union_9_4 s a w (fun x3 => some x3) f st z) (uni (a 9) w) 21 (fun x3 => some x3) (by decide) ?_ ?_
  · intro f k hk
    rw [L_XK_union_9_4, if_neg (show ¬ (21 : Int32) ≤ nI k from j_lt (n := 21) hk (by decide)), x_has w (by omega), jb_s, nI_1, jg_nI hk (by decide), nI_clamp (by omega), uni]
    simp only [bI_z]
    cases bt w k <;> simp
  · intro f
    rw [L_XK_union_9_4, if_pos (by decide)]
theorem x_union8 (s : jS) (a : jB) (w : Int32) : m_XK_union_8 s a w = some (uni (a 8) w 21) := by
  unfold m_XK_union_8
  refine lp_up0 (fun f st z => L_XK_union_8_4 s a w (fun x3 => some x3) f st z) (uni (a 8) w) 21 (fun x3 => some x3) (by decide) ?_ ?_
  · intro f k hk
    rw [L_XK_union_8_4, if_neg (show ¬ (21 : Int32) ≤ nI k from j_lt (n := 21) hk (by decide)), x_has w (by omega), jb_s, nI_1, jg_nI hk (by decide), nI_clamp (by omega), uni]
    simp only [bI_z]
    cases bt w k <;> simp
  · intro f
    rw [L_XK_union_8_4, if_pos (by decide)]
/-- one row's turn of close -/
theorem x_close_turn {s : jS} {a : jB} {k : Nat} (hk : k < 21) (g9 g10 : Nat → Int32) (kk : jS → jB → Option (jS × jB)) (f : Nat) :
    L_XK_close_2 kk (f + 1) s (va_up (va_up a 9 g9) 10 g10) (nI k) = L_XK_close_2 kk f s (va_up (va_up a 9 (upd g9 k (uni (a 8) (uni g9 (a 8 k) 21) 21))) 10 (upd g10 k (g10 k &&& ((a 7 k ||| uni (a 8) (uni g9 (a 8 k) 21) 21) ^^^ (-1))))) (nI (k + 1)) := by
  rw [L_XK_close_2, if_neg (show ¬ (21 : Int32) ≤ nI k from j_lt (n := 21) hk (by decide)), nI_1]
  simp only [jg_nI hk (show 21 < 2 ^ 31 by decide), nI_clamp (show k < 2 ^ 31 by omega), x_union9, x_union8, jb_s, up_ne _ _ (show (8 : Nat) ≠ 9 by decide), up_ne _ _ (show (8 : Nat) ≠ 10 by decide), up_ne _ _ (show (9 : Nat) ≠ 10 by decide), up_ne _ _ (show (7 : Nat) ≠ 10 by decide), up_ne _ _ (show (7 : Nat) ≠ 9 by decide), up_ne _ _ (show (10 : Nat) ≠ 9 by decide), up_self]
  have e : ∀ (p q r : Nat → Int32), va_up (va_up (va_up (va_up a 9 g9) 10 p) 9 q) 10 r = va_up (va_up a 9 q) 10 r := by
    intro p q r
    rw [up_comm (va_up a 9 g9) (show (10 : Nat) ≠ 9 by decide), up_up, up_up]
  rw [e]
  have e2 : upd g9 k (uni (a 8) (uni g9 (a 8 k) 21) 21) k = uni (a 8) (uni g9 (a 8 k) 21) 21 := by unfold upd; rw [if_pos rfl]
  rw [e2]
/-- closing: NO is spread, OPEN loses what is YES or NO; YES must be closed before -/
theorem x_close {nc : Nat} (hn : nc ≤ 20) {s : jS} {a : jB} (hs : Xs nc a) (hp : Pre nc (Yx a)) :
    ∃ g9 g10, m_XK_close s a = some (s, va_up (va_up a 9 g9) 10 g10) ∧ (∀ c d, c < 21 → (bt (g9 c) d = true ↔ Nst (Yx a) (Nx a) c d)) ∧ ∀ c d, c < 21 → (bt (g10 c) d = true ↔ Ox a c d ∧ ¬ Yx a c d ∧ ¬ Nst (Yx a) (Nx a) c d) := by
  unfold m_XK_close
  have e0 : va_up (va_up a 9 (a 9)) 10 (a 10) = a := by rw [up_id, up_id]
  have hN : ∀ c d, Nst (Yx a) (Nx a) c d → hr nc c ∧ hr nc d := by
    rintro c d ⟨p, q, h1, h2, h3⟩
    exact ⟨(hs.2.2.1 _ _ h2).2, (hs.2.2.1 _ _ h3).1⟩
  have key := lp_out0 (fun f (st : (Nat → Int32) × (Nat → Int32)) z => L_XK_close_2 (fun s5 a6 => some (s5, a6)) f s (va_up (va_up a 9 st.1) 10 st.2) z) (fun k st => ∀ c, c < 21 → (c < k → (∀ d, bt (st.1 c) d = true ↔ Nst (Yx a) (Nx a) c d) ∧ ∀ d, bt (st.2 c) d = true ↔ Ox a c d ∧ ¬ Yx a c d ∧ ¬ Nst (Yx a) (Nx a) c d) ∧ (k ≤ c → st.1 c = a 9 c ∧ st.2 c = a 10 c)) 21 (fun o => ∃ g9 g10, o = some (s, va_up (va_up a 9 g9) 10 g10) ∧ (∀ c d, c < 21 → (bt (g9 c) d = true ↔ Nst (Yx a) (Nx a) c d)) ∧ ∀ c d, c < 21 → (bt (g10 c) d = true ↔ Ox a c d ∧ ¬ Yx a c d ∧ ¬ Nst (Yx a) (Nx a) c d)) (by decide) ?_ ?_ (a 9, a 10) ?_
  · rw [e0] at key; exact key
  · intro f k st hk hI
    left
    refine ⟨(upd st.1 k (uni (a 8) (uni st.1 (a 8 k) 21) 21), upd st.2 k (st.2 k &&& ((a 7 k ||| uni (a 8) (uni st.1 (a 8 k) 21) 21) ^^^ (-1)))), ?_, x_close_turn hk st.1 st.2 _ f⟩
    -- the new row
    have hrow : ∀ d, bt (uni (a 8) (uni st.1 (a 8 k) 21) 21) d = true ↔ Nst (Yx a) (Nx a) k d := by
      intro d
      rw [b_uni]
      constructor
      · rintro ⟨b, hb, h1, h2⟩
        rw [b_uni] at h1
        obtain ⟨p, hp21, h3, h4⟩ := h1
        have y1 := (Xs_b hs hk).mp h3
        have y2 := (Xs_b hs hb).mp h2
        rcases Nat.lt_or_ge p k with q | q
        · obtain ⟨p', b', n1, n2, n3⟩ := ((hI p hp21).1 q).1 b |>.mp h4
          exact ⟨p', b', n1, hp.2.2 _ _ _ n2 y1, hp.2.2 _ _ _ y2 n3⟩
        · rw [((hI p hp21).2 q).1] at h4
          exact ⟨p, b, ⟨hp21, h4⟩, y1, y2⟩
      · rintro ⟨p, b, n1, n2, n3⟩
        have hb21 : b < 21 := hr_lt hn (hs.2.2.2.1 _ _ n1).2
        refine ⟨b, hb21, ?_, (Xs_b hs hb21).mpr n3⟩
        rw [b_uni]
        refine ⟨p, n1.1, (Xs_b hs hk).mpr n2, ?_⟩
        rcases Nat.lt_or_ge p k with q | q
        · exact (((hI p n1.1).1 q).1 b).mpr ⟨p, b, n1, hp.1 p (hs.2.2.2.1 _ _ n1).1, hp.1 b (hs.2.2.2.1 _ _ n1).2⟩
        · rw [((hI p n1.1).2 q).1]; exact n1.2
    intro c hc
    by_cases e : c = k
    · subst e
      refine ⟨fun _ => ⟨fun d => ?_, fun d => ?_⟩, fun h => absurd h (by omega)⟩
      · show bt (upd st.1 c _ c) d = true ↔ _
        unfold upd
        rw [if_pos rfl]
        exact hrow d
      · show bt (upd st.2 c _ c) d = true ↔ _
        unfold upd
        rw [if_pos rfl, ((hI c hk).2 (Nat.le_refl _)).2]
        by_cases hd : d < 32
        · rw [b_and, b_not _ hd, b_or, Bool.and_eq_true, Bool.not_eq_true', Bool.or_eq_false_iff]
          constructor
          · rintro ⟨h1, h2, h3⟩
            exact ⟨⟨hk, h1⟩, (fun q => by rw [q.2] at h2; cases h2), (fun q => by rw [(hrow d).mpr q] at h3; cases h3)⟩
          · rintro ⟨h1, h2, h3⟩
            refine ⟨h1.2, Bool.eq_false_iff.mpr (fun q => h2 ⟨hk, q⟩), Bool.eq_false_iff.mpr (fun q => h3 ((hrow d).mp q))⟩
        · rw [b_big (by omega)]
          constructor
          · intro q; cases q
          · rintro ⟨h1, -⟩
            have := hr_lt hn (hs.2.2.2.2 _ _ h1).2
            omega
    · have h9 : ∀ v, upd st.1 k v c = st.1 c := fun v => by unfold upd; rw [if_neg e]
      have h10 : ∀ v, upd st.2 k v c = st.2 c := fun v => by unfold upd; rw [if_neg e]
      refine ⟨fun q => ?_, fun q => ?_⟩
      · dsimp only
        rw [h9, h10]
        exact (hI c hc).1 (by omega)
      · dsimp only
        rw [h9, h10]
        exact (hI c hc).2 (by omega)
  · intro f st hI
    refine ⟨st.1, st.2, ?_, fun c d hc => ((hI c hc).1 hc).1 d, fun c d hc => ((hI c hc).1 hc).2 d⟩
    show L_XK_close_2 _ (f + 1) s _ (nI 21) = _
    rw [L_XK_close_2, if_pos (by decide)]
  · intro c hc
    exact ⟨fun q => absurd q (by omega), fun _ => ⟨rfl, rfl⟩⟩
/-- all below i are below all above j now -/
theorem x_tellYes {nc : Nat} (hn : nc ≤ 20) {s : jS} {a : jB} (hs : Xs nc a) (hp : ∀ i j k, Yx a i j → Yx a j k → Yx a i k) {i j : Nat} (hi : hr nc i) (hj : hr nc j) :
    ∃ g7 g8, m_XK_tellYes s a (nI i) (nI j) = some (s, va_up (va_up a 7 g7) 8 g8) ∧ (∀ c d, c < 21 → (bt (g7 c) d = true ↔ Yx a c d ∨ (Yx a c i ∧ Yx a j d))) ∧ ∀ c d, c < 21 → (bt (g8 c) d = true ↔ Yx a d c ∨ (Yx a d i ∧ Yx a j c)) := by
  have hi21 := hr_lt hn hi
  have hj21 := hr_lt hn hj
  unfold m_XK_tellYes
  rw [jg_nI hi21 (by decide), nI_clamp (by omega), x_has _ (show j < 32 by omega), jb_s, jg_nI hi21 (by decide), jg_nI hj21 (by decide), nI_clamp (n := j) (by omega)]
  have e0 : va_up (va_up a 7 (a 7)) 8 (a 8) = a := by rw [up_id, up_id]
  by_cases hy : bt (a 7 i) j = true
  · rw [hy, if_neg (by decide)]
    have tr : ∀ c d, Yx a c i → Yx a j d → Yx a c d := fun c d h1 h2 => hp _ _ _ h1 (hp _ _ _ ⟨hi21, hy⟩ h2)
    refine ⟨a 7, a 8, by rw [e0], fun c d hc => ?_, fun c d hc => ?_⟩
    · exact ⟨fun q => Or.inl ⟨hc, q⟩, fun q => q.elim (fun z => z.2) (fun z => (tr c d z.1 z.2).2)⟩
    · rw [Xs_b hs hc]
      exact ⟨Or.inl, fun q => q.elim id (fun z => tr d c z.1 z.2)⟩
  · rw [Bool.eq_false_iff.mpr hy, if_pos (by decide)]
    have key := lp_out0 (fun f (st : (Nat → Int32) × (Nat → Int32)) z => L_XK_tellYes_32 (a 8 i) (a 7 j) (fun s9 a10 => some (s9, a10)) f s (va_up (va_up a 7 st.1) 8 st.2) z) (fun k st => ∀ c, c < 21 → (c < k → st.1 c = (if bt (a 8 i) c = true then a 7 c ||| a 7 j else a 7 c) ∧ st.2 c = (if bt (a 7 j) c = true then a 8 c ||| a 8 i else a 8 c)) ∧ (k ≤ c → st.1 c = a 7 c ∧ st.2 c = a 8 c)) 21 (fun o => ∃ g7 g8, o = some (s, va_up (va_up a 7 g7) 8 g8) ∧ ∀ c, c < 21 → g7 c = (if bt (a 8 i) c = true then a 7 c ||| a 7 j else a 7 c) ∧ g8 c = (if bt (a 7 j) c = true then a 8 c ||| a 8 i else a 8 c)) (by decide) ?_ ?_ (a 7, a 8) ?_
    · rw [e0] at key
      obtain ⟨g7, g8, hE, hg⟩ := key
      refine ⟨g7, g8, hE, fun c d hc => ?_, fun c d hc => ?_⟩
      · rw [(hg c hc).1]
        have hb := Xs_b hs (i := c) hi21
        by_cases q : bt (a 8 i) c = true
        · rw [if_pos q, b_or, Bool.or_eq_true]
          exact ⟨fun z => z.imp (fun w => ⟨hc, w⟩) (fun w => ⟨hb.mp q, hj21, w⟩), fun z => z.imp (fun w => w.2) (fun w => w.2.2)⟩
        · rw [if_neg q]
          exact ⟨fun z => Or.inl ⟨hc, z⟩, fun z => z.elim (fun w => w.2) (fun w => absurd (hb.mpr w.1) q)⟩
      · rw [(hg c hc).2]
        have hb := Xs_b hs (i := d) hi21
        have hb2 := Xs_b hs (i := d) hc
        by_cases q : bt (a 7 j) c = true
        · rw [if_pos q, b_or, Bool.or_eq_true, hb2, hb]
          exact ⟨fun z => z.imp id (fun w => ⟨w, hj21, q⟩), fun z => z.imp id (fun w => w.1)⟩
        · rw [if_neg q, hb2]
          exact ⟨Or.inl, fun z => z.elim id (fun w => absurd w.2.2 q)⟩
    · intro f k st hk hI
      left
      have h7 := ((hI k hk).2 (Nat.le_refl _)).1
      have h8 := ((hI k hk).2 (Nat.le_refl _)).2
      refine ⟨(if bt (a 8 i) k = true then upd st.1 k (st.1 k ||| a 7 j) else st.1, if bt (a 7 j) k = true then upd st.2 k (st.2 k ||| a 8 i) else st.2), ?_, ?_⟩
      · intro c hc
        by_cases e : c = k
        · subst e
          refine ⟨fun _ => ⟨?_, ?_⟩, fun h => absurd h (by omega)⟩
          · dsimp only
            by_cases q : bt (a 8 i) c = true
            · rw [if_pos q, if_pos q, ← h7]; unfold upd; rw [if_pos rfl]
            · rw [if_neg q, if_neg q, h7]
          · dsimp only
            by_cases q : bt (a 7 j) c = true
            · rw [if_pos q, if_pos q, ← h8]; unfold upd; rw [if_pos rfl]
            · rw [if_neg q, if_neg q, h8]
        · have u7 : (if bt (a 8 i) k = true then upd st.1 k (st.1 k ||| a 7 j) else st.1) c = st.1 c := by
            split
            · unfold upd; rw [if_neg e]
            · rfl
          have u8 : (if bt (a 7 j) k = true then upd st.2 k (st.2 k ||| a 8 i) else st.2) c = st.2 c := by
            split
            · unfold upd; rw [if_neg e]
            · rfl
          dsimp only
          rw [u7, u8]
          exact ⟨fun q => (hI c hc).1 (by omega), fun q => (hI c hc).2 (by omega)⟩
      · rw [L_XK_tellYes_32, if_neg (show ¬ (21 : Int32) ≤ nI k from j_lt (n := 21) hk (by decide)), nI_1]
        simp only [x_has _ (show k < 32 by omega), jb_s, bI_z, jg_nI hk (show 21 < 2 ^ 31 by decide), nI_clamp (show k < 2 ^ 31 by omega), up_ne _ _ (show (7 : Nat) ≠ 8 by decide), up_ne _ _ (show (8 : Nat) ≠ 7 by decide), up_self, up_up]
        have e7 : ∀ p, va_up (va_up (va_up a 7 st.1) 8 st.2) 7 p = va_up (va_up a 7 p) 8 st.2 := fun p => by rw [up_comm (va_up a 7 st.1) (show (8 : Nat) ≠ 7 by decide), up_up]
        simp only [e7, up_up, up_ne _ _ (show (8 : Nat) ≠ 7 by decide), up_self]
        cases bt (a 8 i) k <;> cases bt (a 7 j) k <;> simp
    · intro f st hI
      refine ⟨st.1, st.2, ?_, fun c hc => (hI c hc).1 hc⟩
      show L_XK_tellYes_32 _ _ _ (f + 1) s _ (nI 21) = _
      rw [L_XK_tellYes_32, if_pos (by decide)]
    · intro c hc
      exact ⟨fun q => absurd q (by omega), fun _ => ⟨rfl, rfl⟩⟩

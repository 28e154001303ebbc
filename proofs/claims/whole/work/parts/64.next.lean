/-! whom a run asks next -/
def YT (nc : Nat) (Y : Nat → Nat → Bool) : Prop := (∀ i, i < nc → Y i i = true) ∧ ∀ i j k, i < nc → j < nc → k < nc → Y i j = true → Y j k = true → Y i k = true
theorem und_iff {Y : Nat → Nat → Bool} {i j : Nat} : undB Y i j = true ↔ Y i j = true ∧ ¬ Y j i = true := by
  unfold undB
  rw [Bool.and_eq_true, Bool.not_eq_true', Bool.not_eq_true]
theorem und_tr {nc : Nat} {Y : Nat → Nat → Bool} (h : YT nc Y) {i j k : Nat} (hi : i < nc) (hj : j < nc) (hk : k < nc) (h1 : undB Y i j = true) (h2 : undB Y j k = true) : undB Y i k = true := by
  rw [und_iff] at h1 h2 ⊢
  exact ⟨h.2 i j k hi hj hk h1.1 h2.1, fun q => h2.2 (h.2 k i j hk hi hj q h1.1)⟩
theorem dir_above {nc : Nat} {P : Nat → Bool} {Y : Nat → Nat → Bool} (h : YT nc Y) (hP : ∀ c, P c = true → c < nc) {i : Nat} (hi : i < nc) : ∀ (n k : Nat), P k = true → undB Y i k = true → cb (fun t => P t && (undB Y i t && undB Y t k)) nc ≤ n → ∃ m, m < nc ∧ dirB nc P Y i m = true ∧ Y m k = true := by
  intro n
  induction n with
  | zero =>
    intro k hk hu hc
    have hkn := hP k hk
    refine ⟨k, hkn, dirB_iff.mpr ⟨hk, hu, fun t ht h1 h2 h3 => ?_⟩, h.1 k hkn⟩
    have := cb_lt (p := fun _ => false) (q := fun t => P t && (undB Y i t && undB Y t k)) (n := nc) (c0 := t) (fun c _ q => by cases q) ht rfl (by rw [h1, h2, h3]; rfl)
    omega
  | succ n ih =>
    intro k hk hu hc
    have hkn := hP k hk
    by_cases e : ∃ t, t < nc ∧ P t = true ∧ undB Y i t = true ∧ undB Y t k = true
    · obtain ⟨t, ht, h1, h2, h3⟩ := e
      have lt : cb (fun u => P u && (undB Y i u && undB Y u t)) nc < cb (fun u => P u && (undB Y i u && undB Y u k)) nc := by
        refine cb_lt (c0 := t) (fun u hu2 q => ?_) ht ?_ ?_
        · simp only [Bool.and_eq_true] at q ⊢
          exact ⟨q.1, q.2.1, und_tr h hu2 ht hkn q.2.2 h3⟩
        · have : undB Y t t = false := by unfold undB; cases Y t t <;> rfl
          rw [this, Bool.and_false, Bool.and_false]
        · rw [h1, h2, h3]; rfl
      obtain ⟨m, m1, m2, m3⟩ := ih t h1 h2 (by omega)
      exact ⟨m, m1, m2, h.2 m t k m1 ht hkn m3 (und_iff.mp h3).1⟩
    · exact ⟨k, hkn, dirB_iff.mpr ⟨hk, hu, fun t ht h1 h2 h3 => e ⟨t, ht, h1, h2, h3⟩⟩, h.1 k hkn⟩
theorem dir_below {nc : Nat} {P : Nat → Bool} {Y : Nat → Nat → Bool} (h : YT nc Y) (hP : ∀ c, P c = true → c < nc) {j : Nat} (hj : P j = true) : ∀ (n k : Nat), P k = true → undB Y k j = true → cb (fun t => P t && (undB Y k t && undB Y t j)) nc ≤ n → ∃ m, m < nc ∧ P m = true ∧ dirB nc P Y m j = true ∧ Y k m = true := by
  intro n
  have hjn := hP j hj
  induction n with
  | zero =>
    intro k hk hu hc
    have hkn := hP k hk
    refine ⟨k, hkn, hk, dirB_iff.mpr ⟨hj, hu, fun t ht h1 h2 h3 => ?_⟩, h.1 k hkn⟩
    have := cb_lt (p := fun _ => false) (q := fun t => P t && (undB Y k t && undB Y t j)) (n := nc) (c0 := t) (fun c _ q => by cases q) ht rfl (by rw [h1, h2, h3]; rfl)
    omega
  | succ n ih =>
    intro k hk hu hc
    have hkn := hP k hk
    by_cases e : ∃ t, t < nc ∧ P t = true ∧ undB Y k t = true ∧ undB Y t j = true
    · obtain ⟨t, ht, h1, h2, h3⟩ := e
      have lt : cb (fun u => P u && (undB Y t u && undB Y u j)) nc < cb (fun u => P u && (undB Y k u && undB Y u j)) nc := by
        refine cb_lt (c0 := t) (fun u hu2 q => ?_) ht ?_ ?_
        · simp only [Bool.and_eq_true] at q ⊢
          exact ⟨q.1, und_tr h hkn ht hu2 h2 q.2.1, q.2.2⟩
        · have : undB Y t t = false := by unfold undB; cases Y t t <;> rfl
          rw [this, Bool.false_and, Bool.and_false]
        · rw [h1, h2, h3]; rfl
      obtain ⟨m, m1, m2, m3, m4⟩ := ih t h1 h3 (by omega)
      exact ⟨m, m1, m2, m3, h.2 k t m hkn ht m1 (und_iff.mp h2).1 m4⟩
    · exact ⟨k, hkn, hk, dirB_iff.mpr ⟨hj, hu, fun t ht h1 h2 h3 => e ⟨t, ht, h1, h2, h3⟩⟩, h.1 k hkn⟩
def impB (p q : Bool) : Bool := !p || q
theorem imp_iff {p q : Bool} : impB p q = true ↔ (p = true → q = true) := by cases p <;> cases q <;> simp [impB]
/-- down: as the class asks, as the reference asks -/
def dnX (nc : Nat) (P : Nat → Bool) (Y : Nat → Nat → Bool) (c k : Nat) : Bool := allB (fun m => impB (P m && undB Y k m) (Y c m)) nc
def dnM (nc : Nat) (P : Nat → Bool) (Y : Nat → Nat → Bool) (c k : Nat) : Bool := allB (fun m => impB (dirB nc P Y k m) (Y c m)) nc
def upX (nc : Nat) (P : Nat → Bool) (Y : Nat → Nat → Bool) (c k : Nat) : Bool := allB (fun m => impB (P m && Y c m) (Y k m)) nc && allB (fun m => impB (P m && undB Y m k) (Y m c)) nc
def upM (nc : Nat) (P : Nat → Bool) (Y : Nat → Nat → Bool) (c k : Nat) : Bool := allB (fun m => impB (P m && Y c m) (Y k m) && impB (P m && dirB nc P Y m k) (Y m c)) nc
theorem dn_eq {nc : Nat} {P : Nat → Bool} {Y : Nat → Nat → Bool} (h : YT nc Y) (hP : ∀ c, P c = true → c < nc) {c k : Nat} (hc : c < nc) (hk : k < nc) : dnX nc P Y c k = dnM nc P Y c k := by
  rw [Bool.eq_iff_iff]
  unfold dnX dnM
  rw [allB_iff, allB_iff]
  constructor
  · intro q m hm
    rw [imp_iff]
    intro w
    obtain ⟨w1, w2, -⟩ := dirB_iff.mp w
    exact imp_iff.mp (q m hm) (by rw [w1, w2]; rfl)
  · intro q m hm
    rw [imp_iff, Bool.and_eq_true]
    rintro ⟨w1, w2⟩
    obtain ⟨t, t1, t2, t3⟩ := dir_above h hP hk _ m w1 w2 (Nat.le_refl _)
    exact h.2 c t m hc t1 hm (imp_iff.mp (q t t1) t2) t3
theorem up_eq {nc : Nat} {P : Nat → Bool} {Y : Nat → Nat → Bool} (h : YT nc Y) (hP : ∀ c, P c = true → c < nc) {c k : Nat} (hc : c < nc) (hk : P k = true) : upX nc P Y c k = upM nc P Y c k := by
  rw [Bool.eq_iff_iff]
  unfold upX upM
  rw [Bool.and_eq_true, allB_iff, allB_iff, allB_iff]
  constructor
  · rintro ⟨q1, q2⟩ m hm
    rw [Bool.and_eq_true]
    refine ⟨q1 m hm, ?_⟩
    rw [imp_iff, Bool.and_eq_true]
    rintro ⟨w1, w2⟩
    obtain ⟨-, w3, -⟩ := dirB_iff.mp w2
    exact imp_iff.mp (q2 m hm) (by rw [w1, w3]; rfl)
  · intro q
    refine ⟨fun m hm => ?_, fun m hm => ?_⟩
    · have := q m hm; rw [Bool.and_eq_true] at this; exact this.1
    · rw [imp_iff, Bool.and_eq_true]
      rintro ⟨w1, w2⟩
      obtain ⟨t, t1, t2, t3, t4⟩ := dir_below h hP hk _ m w1 w2 (Nat.le_refl _)
      have := q t t1
      rw [Bool.and_eq_true] at this
      exact h.2 m t c hm t1 hc t4 (imp_iff.mp this.2 (by rw [t2, t3]; rfl))
/-! the loops -/
theorem lp_fst {R : Type} (L : Nat → Int32 → Option R) (p : Nat → Bool) (N : Nat) (hN : N < 4096) (w : Nat → Option R) (e : Option R) (step : ∀ f k, k < N → L (f + 1) (nI k) = if p k = true then w k else L f (nI (k + 1))) (fin : ∀ f, L (f + 1) (nI N) = e) : L jF 0 = match fstB p N with | some k => w k | none => e := by
  refine lp_out0 (fun f (_ : Unit) y => L f y) (fun k _ => ∀ j, j < k → p j = false) N (fun o => o = match fstB p N with | some k => w k | none => e) hN ?_ ?_ () (fun j hj => by omega)
  · intro f k _ hk hI
    cases hp : p k with
    | true =>
      right
      rw [fstB_some hk hp hI]
      show L (f + 1) (nI k) = w k
      rw [step f k hk, if_pos hp]
    | false =>
      left
      refine ⟨(), fun j hj => ?_, ?_⟩
      · by_cases e : j = k
        · rw [e]; exact hp
        · exact hI j (by omega)
      · show L (f + 1) (nI k) = _
        rw [step f k hk, if_neg (by rw [hp]; decide)]
  · intro f _ hI
    rw [fstB_none hI]
    exact fin f
theorem lp_dnfst {R : Type} (L : Nat → Int32 → Int32 → Option R) (p : Nat → Bool) (kk : Int32 → Option R) (n0 : Nat) (step : ∀ f k z, k < n0 → L (f + 1) z (nI k) = L f (if p k = true then nI k else z) (dn k)) (fin : ∀ f z, L (f + 1) z (-1) = kk z) : ∀ (n f : Nat) (z : Int32), n ≤ n0 → n < f → L f z (dn n) = kk (match fstB p n with | some k => nI k | none => z) := by
  intro n
  induction n with
  | zero =>
    intro f z _ hf
    obtain ⟨f, rfl⟩ : ∃ g, f = g + 1 := ⟨f - 1, by omega⟩
    exact fin f z
  | succ n ih =>
    intro f z hn hf
    obtain ⟨f, rfl⟩ : ∃ g, f = g + 1 := ⟨f - 1, by omega⟩
    show L (f + 1) z (nI n) = _
    rw [step f n z (by omega), ih f _ (by omega) (by omega), fstB]
    cases fstB p n with
    | some k => rfl
    | none =>
      cases p n <;> rfl
theorem lp_allE {R : Type} (L : Nat → Int32 → Int32 → Option R) (q : Nat → Bool) (N : Nat) (hN : N < 4096) (kk : Int32 → Option R) (b0 : Bool) (step : ∀ f k, k < N → L (f + 1) (bI true) (nI k) = L f (bI (q k)) (nI (k + 1))) (stop : ∀ f k, k < N → L (f + 1) (bI false) (nI k) = kk (bI false)) (fin : ∀ f z, L (f + 1) z (nI N) = kk z) : L jF (bI b0) 0 = kk (bI (b0 && allB q N)) := by
  refine lp_out0 (fun f z y => L f z y) (fun k z => z = bI (b0 && allB q k)) N (fun o => o = kk (bI (b0 && allB q N))) hN ?_ ?_ (bI b0) (by simp [allB])
  · intro f k z hk hI
    cases hb : (b0 && allB q k) with
    | false =>
      right
      rw [hI, hb]
      have : (b0 && allB q N) = false := by
        cases b0 with
        | false => rfl
        | true => exact allB_le (Nat.le_of_lt hk) hb
      rw [this]
      exact stop f k hk
    | true =>
      left
      refine ⟨bI (q k), ?_, ?_⟩
      · rw [allB, ← Bool.and_assoc, hb, Bool.true_and]
      · rw [hI, hb]; exact step f k hk
  · intro f z hI
    rw [hI]; exact fin f _
theorem M_next1 {nc : Nat} (hn : nc ≤ 20) {Y : Nat → Nat → Bool} {P lk : Nat → Bool} {s : jS} {a : jB} (hs : s 1 = nI nc) (hB : MB nc Y s a) (hP : MP P a) (h9 : ∀ k, k < 20 → a 9 k = bI (lk k)) {c : Nat} (hc : c < nc) : m_M_nextFor s a (nI c) 1 = some (match fstB (fun k => (P k && !lk k) && dnM nc P Y c k) nc with | some k => nI k | none => -1) := by
  unfold m_M_nextFor
  rw [hs, dn_sub]
  refine lp_dnfst (fun f z y => L_M_nextFor_10 s a (nI c) 1 (fun x27 => some x27) f z y) (fun k => (P k && !lk k) && dnM nc P Y c k) (fun z => some z) nc (fun f k z hk => ?_) (fun f z => ?_) nc jF (-1) (Nat.le_refl _) (by unfold jF; omega)
  · show L_M_nextFor_10 s a (nI c) 1 _ (f + 1) z (nI k) = _
    rw [L_M_nextFor_10, if_neg (nI_pos (by omega)), jg_nI (by omega) (by decide), nI_clamp (by omega), hP k (by omega), jg_nI (by omega) (by decide), h9 k (by omega), show (if bI (P k) = (0 : Int32) then some (0 : Int32) else (if bI (lk k) = (0 : Int32) then some (1 : Int32) else some (0 : Int32))) = some (bI (P k && !lk k)) by cases P k <;> cases lk k <;> rfl, jb_s]
    refine (lp_allE (fun f z y => L_M_nextFor_45 s a (nI c) 1 (nI k) _ f z y) (fun m => impB (dirB nc P Y k m) (Y c m)) nc (by omega) (fun x24 => jb (if x24 = (0 : Int32) then some z else some (nI k)) (fun b26 => L_M_nextFor_10 s a (nI c) 1 (fun x27 => some x27) f b26 (nI k + (-1)))) (P k && !lk k) (fun f m hm => ?_) (fun f m hm => ?_) (fun f z => ?_)).trans ?_
    · show L_M_nextFor_45 s a (nI c) 1 (nI k) _ (f + 1) (bI true) (nI m) = _
      rw [L_M_nextFor_45, hs, if_neg (j_lt hm (by omega)), if_neg (by decide), if_neg (by decide), M_isDirect hn hs hB hP (Or.inl hk) hm, jb_s, hB c m (Or.inl hc) (Or.inl hm), jb_s, nI_1]
      cases dirB nc P Y k m <;> cases Y c m <;> rfl
    · show L_M_nextFor_45 s a (nI c) 1 (nI k) _ (f + 1) (bI false) (nI m) = _
      rw [L_M_nextFor_45, hs, if_neg (j_lt hm (by omega)), if0f]
    · show L_M_nextFor_45 s a (nI c) 1 (nI k) _ (f + 1) z (nI nc) = _
      rw [L_M_nextFor_45, hs, if_pos (j_le (Nat.le_refl _) (by omega))]
    · show jb (if bI ((P k && !lk k) && dnM nc P Y c k) = (0 : Int32) then some z else some (nI k)) _ = _
      rw [dn_add]
      cases ((P k && !lk k) && dnM nc P Y c k) <;> rfl
  · show L_M_nextFor_10 s a (nI c) 1 _ (f + 1) z (-1) = _
    rw [L_M_nextFor_10, if_pos (by decide)]
theorem M_next0 {nc : Nat} (hn : nc ≤ 20) {Y : Nat → Nat → Bool} {P lk : Nat → Bool} {s : jS} {a : jB} (hs : s 1 = nI nc) (hB : MB nc Y s a) (hP : MP P a) (h9 : ∀ k, k < 20 → a 9 k = bI (lk k)) {c : Nat} (hc : c < nc) : m_M_nextFor s a (nI c) 0 = some (match fstB (fun k => (P k && !lk k) && upM nc P Y c k) nc with | some k => nI k | none => -1) := by
  unfold m_M_nextFor
  rw [hs, dn_sub]
  refine lp_dnfst (fun f z y => L_M_nextFor_10 s a (nI c) 0 (fun x27 => some x27) f z y) (fun k => (P k && !lk k) && upM nc P Y c k) (fun z => some z) nc (fun f k z hk => ?_) (fun f z => ?_) nc jF (-1) (Nat.le_refl _) (by unfold jF; omega)
  · show L_M_nextFor_10 s a (nI c) 0 _ (f + 1) z (nI k) = _
    rw [L_M_nextFor_10, if_neg (nI_pos (by omega)), jg_nI (by omega) (by decide), nI_clamp (by omega), hP k (by omega), jg_nI (by omega) (by decide), h9 k (by omega), show (if bI (P k) = (0 : Int32) then some (0 : Int32) else (if bI (lk k) = (0 : Int32) then some (1 : Int32) else some (0 : Int32))) = some (bI (P k && !lk k)) by cases P k <;> cases lk k <;> rfl, jb_s]
    refine (lp_allE (fun f z y => L_M_nextFor_45 s a (nI c) 0 (nI k) _ f z y) (fun m => impB (P m && Y c m) (Y k m) && impB (P m && dirB nc P Y m k) (Y m c)) nc (by omega) (fun x24 => jb (if x24 = (0 : Int32) then some z else some (nI k)) (fun b26 => L_M_nextFor_10 s a (nI c) 0 (fun x27 => some x27) f b26 (nI k + (-1)))) (P k && !lk k) (fun f m hm => ?_) (fun f m hm => ?_) (fun f z => ?_)).trans ?_
    · show L_M_nextFor_45 s a (nI c) 0 (nI k) _ (f + 1) (bI true) (nI m) = _
      rw [L_M_nextFor_45, hs, if_neg (j_lt hm (by omega)), if_neg (by decide), if_pos rfl, jg_nI (by omega) (by decide), nI_clamp (by omega), hP m (by omega), M_isDirect hn hs hB hP (Or.inl hm) hk, hB m c (Or.inl hm) (Or.inl hc), hB c m (Or.inl hc) (Or.inl hm), hB k m (Or.inl hk) (Or.inl hm), nI_1]
      simp only [jb_s, jg_nI (show m < 20 by omega) (show 20 < 2 ^ 31 by decide)]
      cases P m <;> cases Y c m <;> cases Y k m <;> cases dirB nc P Y m k <;> cases Y m c <;> rfl
    · show L_M_nextFor_45 s a (nI c) 0 (nI k) _ (f + 1) (bI false) (nI m) = _
      rw [L_M_nextFor_45, hs, if_neg (j_lt hm (by omega)), if0f]
    · show L_M_nextFor_45 s a (nI c) 0 (nI k) _ (f + 1) z (nI nc) = _
      rw [L_M_nextFor_45, hs, if_pos (j_le (Nat.le_refl _) (by omega))]
    · show jb (if bI ((P k && !lk k) && upM nc P Y c k) = (0 : Int32) then some z else some (nI k)) _ = _
      rw [dn_add]
      cases ((P k && !lk k) && upM nc P Y c k) <;> rfl
  · show L_M_nextFor_10 s a (nI c) 0 _ (f + 1) z (-1) = _
    rw [L_M_nextFor_10, if_pos (by decide)]
/-- a set less another -/
theorem less_z {z w : Int32} : (z &&& (w ^^^ (-1))) = 0 ↔ ∀ i, i < 32 → bt z i = true → bt w i = true := by
  rw [and_z]
  constructor
  · intro h i hi h1
    cases e : bt w i with
    | true => rfl
    | false => exact absurd (h i hi h1 (by rw [b_not _ hi, e]; rfl)) id
  · intro h i hi h1 h2
    rw [b_not _ hi, h i hi h1] at h2
    cases h2
theorem x_next1 {nc : Nat} (hn : nc ≤ 20) {P rem : Nat → Bool} {s : jS} {a : jB} (hs : Xs nc a) (hP : XP P s) (hPn : ∀ c, P c = true → c < nc) {c : Nat} (hc : c < nc) : m_XO_nextDown s a (nI c) (bs rem 20) = some (match fstB (fun k => rem k && dnX nc P (Yb a) c k) 20 with | some k => nI k | none => -6) := by
  unfold m_XO_nextDown m_XK_allAbove
  rw [jg_nI (by omega) (by decide), jb_s, nI_clamp (by omega)]
  have key := lp_fst (fun f y => L_XO_nextDown_12 s a (bs rem 20) (a 7 c) (fun _ => some (-6)) f y) (fun k => rem k && dnX nc P (Yb a) c k) 20 (by decide) (fun k => some (nI k)) (some (-6)) (fun f k hk => ?_) (fun f => ?_)
  · refine key.trans ?_
    cases fstB (fun k => rem k && dnX nc P (Yb a) c k) 20 <;> rfl
  · show L_XO_nextDown_12 s a _ _ _ (f + 1) (nI k) = _
    rw [L_XO_nextDown_12, if_neg (show ¬ (20 : Int32) ≤ nI k from j_lt (n := 20) hk (by decide)), x_has _ (by omega), jb_s, x_sAbove hn hs (by omega), jb_s, nI_1, b_bs _ (by decide), decide_eq_true hk, Bool.true_and, hP]
    have zz : ((bs (undB (Yb a) k) 21 &&& bs P 20) &&& (a 7 c ^^^ (-1))) = 0 ↔ dnX nc P (Yb a) c k = true := by
      rw [less_z]
      unfold dnX
      rw [allB_iff]
      constructor
      · intro h m hm
        rw [imp_iff, Bool.and_eq_true]
        rintro ⟨w1, w2⟩
        exact h m (by omega) (by rw [b_and, b_bs _ (by decide), b_bs _ (by decide), decide_eq_true (show m < 21 by omega), decide_eq_true (show m < 20 by omega), w1, w2]; rfl)
      · intro h m hm q
        rw [b_and, b_bs _ (by decide), b_bs _ (by decide)] at q
        simp only [Bool.and_eq_true] at q
        exact imp_iff.mp (h m (hPn m q.2.2)) (by rw [q.1.2, q.2.2]; rfl)
    cases rem k with
    | false => rw [if0f]; rfl
    | true =>
      rw [if0t]
      cases hd : dnX nc P (Yb a) c k with
      | true => rw [if_pos (zz.mpr hd)]; rfl
      | false => rw [if_neg (fun q => by rw [zz.mp q] at hd; cases hd)]; rfl
  · show L_XO_nextDown_12 s a _ _ _ (f + 1) (nI 20) = _
    rw [L_XO_nextDown_12, if_pos (show (20 : Int32) ≤ nI 20 by decide)]
theorem x_next0 {nc : Nat} (hn : nc ≤ 20) {P rem : Nat → Bool} {s : jS} {a : jB} (hs : Xs nc a) (hP : XP P s) (hPn : ∀ c, P c = true → c < nc) {c : Nat} (hc : c < nc) : m_XO_nextUp s a (nI c) (bs rem 20) = some (match fstB (fun k => rem k && upX nc P (Yb a) c k) 20 with | some k => nI k | none => -6) := by
  unfold m_XO_nextUp
  rw [show m_XK_allAbove s a (nI c) = some (a 7 c) by unfold m_XK_allAbove; rw [jg_nI (by omega) (by decide), nI_clamp (by omega)], jb_s, show m_XK_allBelow s a (nI c) = some (a 8 c) by unfold m_XK_allBelow; rw [jg_nI (by omega) (by decide), nI_clamp (by omega)], jb_s]
  have key := lp_fst (fun f y => L_XO_nextUp_27 s a (bs rem 20) (a 7 c &&& s 9) (a 8 c) (fun _ => some (-6)) f y) (fun k => rem k && upX nc P (Yb a) c k) 20 (by decide) (fun k => some (nI k)) (some (-6)) (fun f k hk => ?_) (fun f => ?_)
  · refine key.trans ?_
    cases fstB (fun k => rem k && upX nc P (Yb a) c k) 20 <;> rfl
  · show L_XO_nextUp_27 s a _ _ _ _ (f + 1) (nI k) = _
    rw [L_XO_nextUp_27, if_neg (show ¬ (20 : Int32) ≤ nI k from j_lt (n := 20) hk (by decide)), x_has _ (by omega), jb_s, show m_XK_allAbove s a (nI k) = some (a 7 k) by unfold m_XK_allAbove; rw [jg_nI (by omega) (by decide), nI_clamp (by omega)], jb_s, x_sBelow hn hs (by omega), jb_s, nI_1, b_bs _ (by decide), decide_eq_true hk, Bool.true_and, hP]
    have z1 : ((a 7 c &&& bs P 20) &&& (a 7 k ^^^ (-1))) = 0 ↔ allB (fun m => impB (P m && Yb a c m) (Yb a k m)) nc = true := by
      rw [less_z, allB_iff]
      constructor
      · intro h m hm
        rw [imp_iff, Bool.and_eq_true]
        rintro ⟨w1, w2⟩
        exact h m (by omega) (by rw [b_and, b_bs _ (by decide), decide_eq_true (show m < 20 by omega), w1]; rw [show bt (a 7 c) m = true from w2]; rfl)
      · intro h m hm q
        rw [b_and, b_bs _ (by decide)] at q
        simp only [Bool.and_eq_true] at q
        exact imp_iff.mp (h m (hPn m q.2.2)) (by rw [q.2.2, show Yb a c m = true from q.1]; rfl)
    have z2 : ((bs (fun j => undB (Yb a) j k) 21 &&& bs P 20) &&& (a 8 c ^^^ (-1))) = 0 ↔ allB (fun m => impB (P m && undB (Yb a) m k) (Yb a m c)) nc = true := by
      rw [less_z, allB_iff]
      constructor
      · intro h m hm
        rw [imp_iff, Bool.and_eq_true]
        rintro ⟨w1, w2⟩
        have := h m (by omega) (by rw [b_and, b_bs _ (by decide), b_bs _ (by decide), decide_eq_true (show m < 21 by omega), decide_eq_true (show m < 20 by omega), w1, w2]; rfl)
        rw [hs.1 m c (by omega) (by omega)] at this
        exact this
      · intro h m hm q
        rw [b_and, b_bs _ (by decide), b_bs _ (by decide)] at q
        simp only [Bool.and_eq_true] at q
        have hmn := hPn m q.2.2
        rw [hs.1 m c (by omega) (by omega)]
        exact imp_iff.mp (h m hmn) (by rw [q.1.2, q.2.2]; rfl)
    unfold upX
    cases rem k with
    | false => rw [if0f]; rfl
    | true =>
      rw [if0t]
      cases h1 : allB (fun m => impB (P m && Yb a c m) (Yb a k m)) nc with
      | false => rw [if_neg (fun q => by rw [z1.mp q] at h1; cases h1)]; rfl
      | true =>
        rw [if_pos (z1.mpr h1)]
        cases h2 : allB (fun m => impB (P m && undB (Yb a) m k) (Yb a m c)) nc with
        | true => rw [if_pos (z2.mpr h2)]; rfl
        | false => rw [if_neg (fun q => by rw [z2.mp q] at h2; cases h2)]; rfl
  · show L_XO_nextUp_27 s a _ _ _ _ (f + 1) (nI 20) = _
    rw [L_XO_nextUp_27, if_pos (show (20 : Int32) ≤ nI 20 by decide)]

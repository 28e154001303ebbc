/-! what is below what: the least that is told -/
def hr (nc i : Nat) : Prop := i < nc ∨ i = 20
theorem hr_lt {nc i : Nat} (hn : nc ≤ 20) (h : hr nc i) : i < 21 := by unfold hr at h; omega
def Pre (nc : Nat) (Z : Nat → Nat → Prop) : Prop := (∀ i, hr nc i → Z i i) ∧ (∀ j, hr nc j → Z 20 j) ∧ ∀ i j k, Z i j → Z j k → Z i k
def Yst (nc : Nat) (B : Nat → Nat → Prop) (i j : Nat) : Prop := ∀ Z : Nat → Nat → Prop, Pre nc Z → (∀ i j, B i j → Z i j) → Z i j
theorem Yst_pre (nc : Nat) (B : Nat → Nat → Prop) : Pre nc (Yst nc B) :=
  ⟨fun i h Z hZ _ => hZ.1 i h, fun j h Z hZ _ => hZ.2.1 j h, fun i j k h1 h2 Z hZ hB => hZ.2.2 i j k (h1 Z hZ hB) (h2 Z hZ hB)⟩
theorem Yst_in {nc : Nat} {B : Nat → Nat → Prop} {i j : Nat} (h : B i j) : Yst nc B i j := fun _ _ hB => hB i j h
theorem Yst_le {nc : Nat} {B Z : Nat → Nat → Prop} (hZ : Pre nc Z) (hB : ∀ i j, B i j → Z i j) {i j : Nat} (h : Yst nc B i j) : Z i j := h Z hZ hB
theorem Yst_hr {nc : Nat} {B : Nat → Nat → Prop} (hB : ∀ i j, B i j → hr nc i ∧ hr nc j) {i j : Nat} (h : Yst nc B i j) : hr nc i ∧ hr nc j :=
  Yst_le (Z := fun i j => hr nc i ∧ hr nc j) ⟨fun _ h => ⟨h, h⟩, fun _ h => ⟨Or.inr rfl, h⟩, fun _ _ _ h1 h2 => ⟨h1.1, h2.2⟩⟩ hB h
/-- the same told, the same below -/
theorem Yst_congr {nc : Nat} {B B' : Nat → Nat → Prop} (h : ∀ i j, B i j → Yst nc B' i j) (h' : ∀ i j, B' i j → Yst nc B i j) (i j : Nat) : Yst nc B i j ↔ Yst nc B' i j :=
  ⟨fun q => Yst_le (Yst_pre nc B') h q, fun q => Yst_le (Yst_pre nc B) h' q⟩
def Nst (Y N0 : Nat → Nat → Prop) (c d : Nat) : Prop := ∃ a b, N0 a b ∧ Y a c ∧ Y d b
/-- the axioms, as both sides have them: k below na; left, other (20: none), right (20: NOTHING), there -/
abbrev jAx : Type := Nat × (Nat → Nat) × (Nat → Nat) × (Nat → Nat) × (Nat → Bool)
def selfP (x : jAx) (i j k : Nat) : Bool := x.2.2.2.2 k && (decide (x.2.1 k = i) && (decide (x.2.2.1 k = 20) && decide (x.2.2.2.1 k = j)))
def selfB (x : jAx) (i j : Nat) : Bool := decide (i = j) || anyB (selfP x i j) x.1
/-- a set that the axioms do not leave -/
def Cld (x : jAx) (F : Nat → Prop) : Prop := ∀ k, k < x.1 → x.2.2.2.2 k = true → F (x.2.1 k) → (x.2.2.1 k = 20 ∨ F (x.2.2.1 k)) → F (x.2.2.2.1 k)
def Der (x : jAx) (i j : Nat) : Prop := ∀ F : Nat → Prop, Cld x F → F i → F j ∨ F 20
theorem Der_pre (x : jAx) (nc : Nat) : Pre nc (Der x) := by
  refine ⟨fun i _ F _ h => Or.inl h, fun j _ F _ h => Or.inr h, fun i j k h1 h2 F hF hi => ?_⟩
  rcases h1 F hF hi with h | h
  · exact h2 F hF h
  · exact Or.inr h
theorem Der_self {x : jAx} {i j : Nat} (h : selfB x i j = true) : Der x i j := by
  intro F hF hi
  unfold selfB at h
  simp only [Bool.or_eq_true, decide_eq_true_eq] at h
  rcases h with h | h
  · subst h; exact Or.inl hi
  · obtain ⟨k, hk, h⟩ := anyB_iff.mp h
    simp only [selfP, Bool.and_eq_true, decide_eq_true_eq] at h
    obtain ⟨h1, h2, h3, h4⟩ := h
    left
    rw [← h4]
    exact hF k hk h1 (by rw [h2]; exact hi) (Or.inl h3)
/-- the classes that an axiom touches: the least set with its left that holds the left of every axiom that it meets -/
def Bck (x : jAx) (T : Nat → Prop) : Prop := ∀ k, k < x.1 → x.2.2.2.2 k = true → (T (x.2.1 k) ∨ (x.2.2.1 k ≠ 20 ∧ T (x.2.2.1 k)) ∨ T (x.2.2.2.1 k)) → T (x.2.1 k) ∧ (x.2.2.1 k ≠ 20 → T (x.2.2.1 k))
def Tch (x : jAx) (k0 c : Nat) : Prop := ∀ T : Nat → Prop, Bck x T → T (x.2.1 k0) → (x.2.2.1 k0 ≠ 20 → T (x.2.2.1 k0)) → T c
theorem Tch_bck (x : jAx) (k0 : Nat) : Bck x (Tch x k0) := by
  intro k hk ht h
  have key : ∀ T : Nat → Prop, Bck x T → T (x.2.1 k0) → (x.2.2.1 k0 ≠ 20 → T (x.2.2.1 k0)) → T (x.2.1 k) ∧ (x.2.2.1 k ≠ 20 → T (x.2.2.1 k)) := fun T hT h1 h2 => hT k hk ht (by
    rcases h with h | ⟨h0, h⟩ | h
    · exact Or.inl (h T hT h1 h2)
    · exact Or.inr (Or.inl ⟨h0, h T hT h1 h2⟩)
    · exact Or.inr (Or.inr (h T hT h1 h2)))
  exact ⟨fun T hT h1 h2 => (key T hT h1 h2).1, fun h0 T hT h1 h2 => (key T hT h1 h2).2 h0⟩
/-- the axioms without the one at k0 -/
def axDrop (x : jAx) (k0 : Nat) : jAx := (x.1, x.2.1, x.2.2.1, x.2.2.2.1, fun k => if k = k0 then false else x.2.2.2.2 k)
theorem Der_drop {x : jAx} {k0 i j : Nat} (h : Der (axDrop x k0) i j) : Der x i j := fun F hF hi => h F (fun k hk ht => by
  have ht : (if k = k0 then false else x.2.2.2.2 k) = true := ht
  split at ht
  · cases ht
  · exact hF k hk ht) hi
/-- what isn't touched stays as it is -/
theorem Der_keep {x : jAx} {k0 i j : Nat} (hcl : ∀ k, k < x.1 → x.2.1 k < 20 ∧ (x.2.2.1 k < 20 ∨ x.2.2.1 k = 20)) (hk0 : k0 < x.1) (hi : ¬ Tch x k0 i) (h : Der x i j) : Der (axDrop x k0) i j := by
  intro F hF hFi
  have hT20 : ¬ Tch x k0 20 := fun q => by
    have hb : Bck x (fun c => c < 20) := fun k hk _ _ => ⟨(hcl k hk).1, fun h0 => by rcases (hcl k hk).2 with q | q; exact q; exact absurd q h0⟩
    have := q (fun c => c < 20) hb (hcl k0 hk0).1 (fun h0 => by rcases (hcl k0 hk0).2 with q | q; exact q; exact absurd q h0)
    omega
  have hG := h (fun c => F c ∧ ¬ Tch x k0 c) (fun k hk ht h1 h2 => by
    by_cases e : k = k0
    · subst e
      exact absurd (fun T _ a _ => a : Tch x k (x.2.1 k)) h1.2
    · refine ⟨hF k hk (show (if k = k0 then false else x.2.2.2.2 k) = true by rw [if_neg e]; exact ht) h1.1 (h2.imp id (fun q => q.1)), fun q => h1.2 ?_⟩
      exact (Tch_bck x k0 k hk ht (Or.inr (Or.inr q))).1) ⟨hFi, hi⟩
  exact hG.imp (fun q => q.1) (fun q => q.1)

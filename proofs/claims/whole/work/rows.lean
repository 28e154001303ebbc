section
-- ===== PART A: goes FIRST, ahead of the names: the tables' words, and 'selects' of the private methods out of them =====
/-- a private method of a class that the tables say can be made, by its rows of tables_1 -/
def lw_okq (q : MethodName × Nat) : Prop := (q.1.cls ≠ "java/lang/invoke/MethodHandle" ∧ q.1.cls ≠ "java/lang/invoke/VarHandle") ∧ Cond.instantiable q.1.cls q.2 ∈ tables_1 ∧ Cond.privateMethod q.1 ∈ tables_1 ∧ Cond.instanceMethod q.1 ∈ tables_1
theorem lw_p0 : lw_okq (⟨"ClassifySort", "isClass", "(I)Z"⟩, 9) := ⟨⟨by decide +kernel, by decide +kernel⟩, List.mem_of_getElem? (i := 10) (by decide +kernel), List.mem_of_getElem? (i := 163) (by decide +kernel), List.mem_of_getElem? (i := 164) (by decide +kernel)⟩
theorem lw_p1 : lw_okq (⟨"ClassifySort", "isGoal", "(I)Z"⟩, 9) := ⟨⟨by decide +kernel, by decide +kernel⟩, List.mem_of_getElem? (i := 10) (by decide +kernel), List.mem_of_getElem? (i := 167) (by decide +kernel), List.mem_of_getElem? (i := 168) (by decide +kernel)⟩
theorem lw_p2 : lw_okq (⟨"ClassifySort", "tellAxioms", "()V"⟩, 9) := ⟨⟨by decide +kernel, by decide +kernel⟩, List.mem_of_getElem? (i := 10) (by decide +kernel), List.mem_of_getElem? (i := 196) (by decide +kernel), List.mem_of_getElem? (i := 197) (by decide +kernel)⟩
theorem lw_p3 : lw_okq (⟨"ClassifySort$Order", "answer", "(II)I"⟩, 5) := ⟨⟨by decide +kernel, by decide +kernel⟩, List.mem_of_getElem? (i := 82) (by decide +kernel), List.mem_of_getElem? (i := 292) (by decide +kernel), List.mem_of_getElem? (i := 293) (by decide +kernel)⟩
theorem lw_p4 : lw_okq (⟨"ClassifySort$Order", "searchDown", "(I)V"⟩, 5) := ⟨⟨by decide +kernel, by decide +kernel⟩, List.mem_of_getElem? (i := 82) (by decide +kernel), List.mem_of_getElem? (i := 303) (by decide +kernel), List.mem_of_getElem? (i := 304) (by decide +kernel)⟩
theorem lw_p5 : lw_okq (⟨"ClassifySort$Order", "nextDown", "(II)I"⟩, 5) := ⟨⟨by decide +kernel, by decide +kernel⟩, List.mem_of_getElem? (i := 82) (by decide +kernel), List.mem_of_getElem? (i := 307) (by decide +kernel), List.mem_of_getElem? (i := 308) (by decide +kernel)⟩
theorem lw_p6 : lw_okq (⟨"ClassifySort$Order", "searchUp", "(I)V"⟩, 5) := ⟨⟨by decide +kernel, by decide +kernel⟩, List.mem_of_getElem? (i := 82) (by decide +kernel), List.mem_of_getElem? (i := 320) (by decide +kernel), List.mem_of_getElem? (i := 321) (by decide +kernel)⟩
theorem lw_p7 : lw_okq (⟨"ClassifySort$Order", "nextUp", "(II)I"⟩, 5) := ⟨⟨by decide +kernel, by decide +kernel⟩, List.mem_of_getElem? (i := 82) (by decide +kernel), List.mem_of_getElem? (i := 324) (by decide +kernel), List.mem_of_getElem? (i := 325) (by decide +kernel)⟩
theorem lw_p8 : lw_okq (⟨"ClassifySort", "isThing", "(I)Z"⟩, 9) := ⟨⟨by decide +kernel, by decide +kernel⟩, List.mem_of_getElem? (i := 10) (by decide +kernel), List.mem_of_getElem? (i := 402) (by decide +kernel), List.mem_of_getElem? (i := 403) (by decide +kernel)⟩
theorem lw_p9 : lw_okq (⟨"ClassifySortModel", "close", "()V"⟩, 23) := ⟨⟨by decide +kernel, by decide +kernel⟩, List.mem_of_getElem? (i := 441) (by decide +kernel), List.mem_of_getElem? (i := 521) (by decide +kernel), List.mem_of_getElem? (i := 522) (by decide +kernel)⟩
theorem lw_p10 : lw_okq (⟨"ClassifySortModel", "tellItself", "()V"⟩, 23) := ⟨⟨by decide +kernel, by decide +kernel⟩, List.mem_of_getElem? (i := 441) (by decide +kernel), List.mem_of_getElem? (i := 525) (by decide +kernel), List.mem_of_getElem? (i := 526) (by decide +kernel)⟩
theorem lw_p11 : lw_okq (⟨"ClassifySortModel", "isItself", "(II)Z"⟩, 23) := ⟨⟨by decide +kernel, by decide +kernel⟩, List.mem_of_getElem? (i := 441) (by decide +kernel), List.mem_of_getElem? (i := 529) (by decide +kernel), List.mem_of_getElem? (i := 530) (by decide +kernel)⟩
theorem lw_p12 : lw_okq (⟨"ClassifySortModel", "closeOnce", "()Z"⟩, 23) := ⟨⟨by decide +kernel, by decide +kernel⟩, List.mem_of_getElem? (i := 441) (by decide +kernel), List.mem_of_getElem? (i := 533) (by decide +kernel), List.mem_of_getElem? (i := 534) (by decide +kernel)⟩
theorem lw_p13 : lw_okq (⟨"ClassifySortModel", "isHere", "(I)Z"⟩, 23) := ⟨⟨by decide +kernel, by decide +kernel⟩, List.mem_of_getElem? (i := 441) (by decide +kernel), List.mem_of_getElem? (i := 537) (by decide +kernel), List.mem_of_getElem? (i := 538) (by decide +kernel)⟩
theorem lw_p14 : lw_okq (⟨"ClassifySortModel", "below", "(II)Z"⟩, 23) := ⟨⟨by decide +kernel, by decide +kernel⟩, List.mem_of_getElem? (i := 441) (by decide +kernel), List.mem_of_getElem? (i := 541) (by decide +kernel), List.mem_of_getElem? (i := 542) (by decide +kernel)⟩
theorem lw_p15 : lw_okq (⟨"ClassifySortModel", "spreadNo", "(II)Z"⟩, 23) := ⟨⟨by decide +kernel, by decide +kernel⟩, List.mem_of_getElem? (i := 441) (by decide +kernel), List.mem_of_getElem? (i := 545) (by decide +kernel), List.mem_of_getElem? (i := 546) (by decide +kernel)⟩
def lw_privs_1 : List (MethodName × Nat) := [(⟨"ClassifySort", "isClass", "(I)Z"⟩, 9), (⟨"ClassifySort", "isGoal", "(I)Z"⟩, 9), (⟨"ClassifySort", "tellAxioms", "()V"⟩, 9), (⟨"ClassifySort$Order", "answer", "(II)I"⟩, 5), (⟨"ClassifySort$Order", "searchDown", "(I)V"⟩, 5), (⟨"ClassifySort$Order", "nextDown", "(II)I"⟩, 5), (⟨"ClassifySort$Order", "searchUp", "(I)V"⟩, 5), (⟨"ClassifySort$Order", "nextUp", "(II)I"⟩, 5), (⟨"ClassifySort", "isThing", "(I)Z"⟩, 9), (⟨"ClassifySortModel", "close", "()V"⟩, 23), (⟨"ClassifySortModel", "tellItself", "()V"⟩, 23), (⟨"ClassifySortModel", "isItself", "(II)Z"⟩, 23), (⟨"ClassifySortModel", "closeOnce", "()Z"⟩, 23), (⟨"ClassifySortModel", "isHere", "(I)Z"⟩, 23), (⟨"ClassifySortModel", "below", "(II)Z"⟩, 23), (⟨"ClassifySortModel", "spreadNo", "(II)Z"⟩, 23)]
theorem lw_r1 : ∀ q ∈ lw_privs_1, lw_okq q := List.forall_mem_cons.mpr ⟨lw_p0, List.forall_mem_cons.mpr ⟨lw_p1, List.forall_mem_cons.mpr ⟨lw_p2, List.forall_mem_cons.mpr ⟨lw_p3, List.forall_mem_cons.mpr ⟨lw_p4, List.forall_mem_cons.mpr ⟨lw_p5, List.forall_mem_cons.mpr ⟨lw_p6, List.forall_mem_cons.mpr ⟨lw_p7, List.forall_mem_cons.mpr ⟨lw_p8, List.forall_mem_cons.mpr ⟨lw_p9, List.forall_mem_cons.mpr ⟨lw_p10, List.forall_mem_cons.mpr ⟨lw_p11, List.forall_mem_cons.mpr ⟨lw_p12, List.forall_mem_cons.mpr ⟨lw_p13, List.forall_mem_cons.mpr ⟨lw_p14, List.forall_mem_cons.mpr ⟨lw_p15, fun _ h => absurd h List.not_mem_nil⟩⟩⟩⟩⟩⟩⟩⟩⟩⟩⟩⟩⟩⟩⟩⟩
theorem lw_p16 : lw_okq (⟨"ClassifySortModel", "isClass", "(I)Z"⟩, 23) := ⟨⟨by decide +kernel, by decide +kernel⟩, List.mem_of_getElem? (i := 441) (by decide +kernel), List.mem_of_getElem? (i := 557) (by decide +kernel), List.mem_of_getElem? (i := 558) (by decide +kernel)⟩
theorem lw_p17 : lw_okq (⟨"ClassifySortModel", "forget", "(II)V"⟩, 23) := ⟨⟨by decide +kernel, by decide +kernel⟩, List.mem_of_getElem? (i := 441) (by decide +kernel), List.mem_of_getElem? (i := 561) (by decide +kernel), List.mem_of_getElem? (i := 562) (by decide +kernel)⟩
theorem lw_p18 : lw_okq (⟨"ClassifySortModel", "isTouched", "(II)Z"⟩, 23) := ⟨⟨by decide +kernel, by decide +kernel⟩, List.mem_of_getElem? (i := 441) (by decide +kernel), List.mem_of_getElem? (i := 565) (by decide +kernel), List.mem_of_getElem? (i := 566) (by decide +kernel)⟩
theorem lw_p19 : lw_okq (⟨"ClassifySortModel", "openPairs", "()I"⟩, 23) := ⟨⟨by decide +kernel, by decide +kernel⟩, List.mem_of_getElem? (i := 441) (by decide +kernel), List.mem_of_getElem? (i := 577) (by decide +kernel), List.mem_of_getElem? (i := 578) (by decide +kernel)⟩
theorem lw_p20 : lw_okq (⟨"ClassifySortModel", "goalOf", "(I)I"⟩, 23) := ⟨⟨by decide +kernel, by decide +kernel⟩, List.mem_of_getElem? (i := 441) (by decide +kernel), List.mem_of_getElem? (i := 585) (by decide +kernel), List.mem_of_getElem? (i := 586) (by decide +kernel)⟩
theorem lw_p21 : lw_okq (⟨"ClassifySortModel", "reasonAlone", "(II)I"⟩, 23) := ⟨⟨by decide +kernel, by decide +kernel⟩, List.mem_of_getElem? (i := 441) (by decide +kernel), List.mem_of_getElem? (i := 593) (by decide +kernel), List.mem_of_getElem? (i := 594) (by decide +kernel)⟩
theorem lw_p22 : lw_okq (⟨"ClassifySortModel", "reason", "(I)I"⟩, 23) := ⟨⟨by decide +kernel, by decide +kernel⟩, List.mem_of_getElem? (i := 441) (by decide +kernel), List.mem_of_getElem? (i := 597) (by decide +kernel), List.mem_of_getElem? (i := 598) (by decide +kernel)⟩
theorem lw_p23 : lw_okq (⟨"ClassifySortModel", "look", "(II)Z"⟩, 23) := ⟨⟨by decide +kernel, by decide +kernel⟩, List.mem_of_getElem? (i := 441) (by decide +kernel), List.mem_of_getElem? (i := 605) (by decide +kernel), List.mem_of_getElem? (i := 606) (by decide +kernel)⟩
theorem lw_p24 : lw_okq (⟨"ClassifySortModel", "go", "(IZ)V"⟩, 23) := ⟨⟨by decide +kernel, by decide +kernel⟩, List.mem_of_getElem? (i := 441) (by decide +kernel), List.mem_of_getElem? (i := 609) (by decide +kernel), List.mem_of_getElem? (i := 610) (by decide +kernel)⟩
theorem lw_p25 : lw_okq (⟨"ClassifySortModel", "nextFor", "(IZ)I"⟩, 23) := ⟨⟨by decide +kernel, by decide +kernel⟩, List.mem_of_getElem? (i := 441) (by decide +kernel), List.mem_of_getElem? (i := 613) (by decide +kernel), List.mem_of_getElem? (i := 614) (by decide +kernel)⟩
theorem lw_p26 : lw_okq (⟨"ClassifySortModel", "isDirect", "(II)Z"⟩, 23) := ⟨⟨by decide +kernel, by decide +kernel⟩, List.mem_of_getElem? (i := 441) (by decide +kernel), List.mem_of_getElem? (i := 617) (by decide +kernel), List.mem_of_getElem? (i := 618) (by decide +kernel)⟩
theorem lw_p27 : lw_okq (⟨"ClassifySortModel", "isUnder", "(II)Z"⟩, 23) := ⟨⟨by decide +kernel, by decide +kernel⟩, List.mem_of_getElem? (i := 441) (by decide +kernel), List.mem_of_getElem? (i := 621) (by decide +kernel), List.mem_of_getElem? (i := 622) (by decide +kernel)⟩
theorem lw_p28 : lw_okq (⟨"ClassifySortModel", "isSecond", "(I)Z"⟩, 23) := ⟨⟨by decide +kernel, by decide +kernel⟩, List.mem_of_getElem? (i := 441) (by decide +kernel), List.mem_of_getElem? (i := 629) (by decide +kernel), List.mem_of_getElem? (i := 630) (by decide +kernel)⟩
theorem lw_p29 : lw_okq (⟨"ClassifySortModel", "hasBelow", "(I)Z"⟩, 23) := ⟨⟨by decide +kernel, by decide +kernel⟩, List.mem_of_getElem? (i := 441) (by decide +kernel), List.mem_of_getElem? (i := 633) (by decide +kernel), List.mem_of_getElem? (i := 634) (by decide +kernel)⟩
theorem lw_p30 : lw_okq (⟨"ClassifySortModel", "reasonThing", "(II)I"⟩, 23) := ⟨⟨by decide +kernel, by decide +kernel⟩, List.mem_of_getElem? (i := 441) (by decide +kernel), List.mem_of_getElem? (i := 661) (by decide +kernel), List.mem_of_getElem? (i := 662) (by decide +kernel)⟩
theorem lw_p31 : lw_okq (⟨"ClassifySortModel", "isIn", "(II)Z"⟩, 23) := ⟨⟨by decide +kernel, by decide +kernel⟩, List.mem_of_getElem? (i := 441) (by decide +kernel), List.mem_of_getElem? (i := 665) (by decide +kernel), List.mem_of_getElem? (i := 666) (by decide +kernel)⟩
def lw_privs_2 : List (MethodName × Nat) := [(⟨"ClassifySortModel", "isClass", "(I)Z"⟩, 23), (⟨"ClassifySortModel", "forget", "(II)V"⟩, 23), (⟨"ClassifySortModel", "isTouched", "(II)Z"⟩, 23), (⟨"ClassifySortModel", "openPairs", "()I"⟩, 23), (⟨"ClassifySortModel", "goalOf", "(I)I"⟩, 23), (⟨"ClassifySortModel", "reasonAlone", "(II)I"⟩, 23), (⟨"ClassifySortModel", "reason", "(I)I"⟩, 23), (⟨"ClassifySortModel", "look", "(II)Z"⟩, 23), (⟨"ClassifySortModel", "go", "(IZ)V"⟩, 23), (⟨"ClassifySortModel", "nextFor", "(IZ)I"⟩, 23), (⟨"ClassifySortModel", "isDirect", "(II)Z"⟩, 23), (⟨"ClassifySortModel", "isUnder", "(II)Z"⟩, 23), (⟨"ClassifySortModel", "isSecond", "(I)Z"⟩, 23), (⟨"ClassifySortModel", "hasBelow", "(I)Z"⟩, 23), (⟨"ClassifySortModel", "reasonThing", "(II)I"⟩, 23), (⟨"ClassifySortModel", "isIn", "(II)Z"⟩, 23)]
theorem lw_r2 : ∀ q ∈ lw_privs_2, lw_okq q := List.forall_mem_cons.mpr ⟨lw_p16, List.forall_mem_cons.mpr ⟨lw_p17, List.forall_mem_cons.mpr ⟨lw_p18, List.forall_mem_cons.mpr ⟨lw_p19, List.forall_mem_cons.mpr ⟨lw_p20, List.forall_mem_cons.mpr ⟨lw_p21, List.forall_mem_cons.mpr ⟨lw_p22, List.forall_mem_cons.mpr ⟨lw_p23, List.forall_mem_cons.mpr ⟨lw_p24, List.forall_mem_cons.mpr ⟨lw_p25, List.forall_mem_cons.mpr ⟨lw_p26, List.forall_mem_cons.mpr ⟨lw_p27, List.forall_mem_cons.mpr ⟨lw_p28, List.forall_mem_cons.mpr ⟨lw_p29, List.forall_mem_cons.mpr ⟨lw_p30, List.forall_mem_cons.mpr ⟨lw_p31, fun _ h => absurd h List.not_mem_nil⟩⟩⟩⟩⟩⟩⟩⟩⟩⟩⟩⟩⟩⟩⟩⟩
def lw_privs : List (MethodName × Nat) := lw_privs_1 ++ (lw_privs_2)
def lw_tbl : List Cond := k2_sels lw_privs ++ tables_1
theorem lw_privs_ok : ∀ q ∈ lw_privs, lw_okq q := by
  show ∀ q ∈ lw_privs_1 ++ (lw_privs_2), lw_okq q
  exact List.forall_mem_append.mpr ⟨lw_r1, lw_r2⟩
end
section
/-! J: a method's frame over a world of fixed cells. A reference is the cell's place in the world; 'ad' gives its address. -/
abbrev jE : Type := (Nat × Nat × (Nat → Int32)) ⊕ (Nat × List Value)
abbrev jW : Type := List jE
def jv (ad : Nat → Nat) : Value → Value
  | .ref k => .ref (ad k)
  | v => v
def je (cA : Nat → ClassId) (ad : Nat → Nat) : jE → va_E
  | .inl (t, n, f) => .inl (cA t, n, .inl f)
  | .inr (ci, fs) => .inr (ci, fs.map (jv ad))
def jwA (cA : Nat → ClassId) (ad : Nat → Nat) : Nat → jW → va_W
  | _, [] => []
  | j, e :: t => (ad j, je cA ad e) :: jwA cA ad (j + 1) t
def jw (cA : Nat → ClassId) (ad : Nat → Nat) (ws : jW) : va_W := jwA cA ad 0 ws
theorem jwA_at {cA : Nat → ClassId} {ad : Nat → Nat} {e : jE} : ∀ {ws : jW} {k : Nat} (j : Nat), ws[k]? = some e → (jwA cA ad j ws)[k]? = some (ad (j + k), je cA ad e) := by
  intro ws
  induction ws with
  | nil => intro k j h; simp at h
  | cons x t ih =>
    intro k j h
    cases k with
    | zero =>
      simp only [List.getElem?_cons_zero, Option.some.injEq] at h
      subst h
      rfl
    | succ k =>
      rw [List.getElem?_cons_succ] at h
      have := ih (j + 1) h
      simp only [jwA, List.getElem?_cons_succ]
      rw [this]
      congr 3
      omega
theorem jw_at {cA : Nat → ClassId} {ad : Nat → Nat} {ws : jW} {k : Nat} {e : jE} (h : ws[k]? = some e) : (jw cA ad ws)[k]? = some (ad k, je cA ad e) := by
  have := jwA_at (cA := cA) (ad := ad) 0 h
  rwa [Nat.zero_add] at this
theorem jwA_len {cA : Nat → ClassId} {ad : Nat → Nat} : ∀ {ws : jW} (j : Nat), (jwA cA ad j ws).length = ws.length := by
  intro ws
  induction ws with
  | nil => intro j; rfl
  | cons x t ih => intro j; simp only [jwA, List.length_cons, ih]
theorem jw_len {cA : Nat → ClassId} {ad : Nat → Nat} {ws : jW} : (jw cA ad ws).length = ws.length := jwA_len 0
theorem jwA_set {cA : Nat → ClassId} {ad : Nat → Nat} {e : jE} : ∀ {ws : jW} {k : Nat} (j : Nat), (jwA cA ad j ws).set k (ad (j + k), je cA ad e) = jwA cA ad j (ws.set k e) := by
  intro ws
  induction ws with
  | nil => intro k j; rfl
  | cons x t ih =>
    intro k j
    cases k with
    | zero => rfl
    | succ k =>
      simp only [jwA, List.set_cons_succ]
      rw [← ih (j + 1), show j + (k + 1) = j + 1 + k by omega]
theorem jw_set {cA : Nat → ClassId} {ad : Nat → Nat} {ws : jW} {k : Nat} {e : jE} : (jw cA ad ws).set k (ad k, je cA ad e) = jw cA ad (ws.set k e) := by
  have := jwA_set (cA := cA) (ad := ad) (e := e) (ws := ws) (k := k) 0
  rwa [Nat.zero_add] at this
def jT (cA : Nat → ClassId) : List (ClassId × FieldType) := [(cA 0, .int), (cA 1, .boolean)]
def jA (ad : Nat → Nat) (n : Nat) : Nat → Prop := fun q => ∃ k, k < n ∧ q = ad k
/-- the locals: none is not known; only values of one slot are told -/
def jl (ad : Nat → Nat) : Nat → List (Option Value) → List (Nat × Value)
  | _, [] => []
  | i, none :: t => jl ad (i + 1) t
  | i, some v :: t => if v.category = 1 then (i, jv ad v) :: jl ad (i + 1) t else jl ad (i + 1) t
theorem jv_cat (ad : Nat → Nat) (v : Value) : (jv ad v).category = v.category := by cases v <;> rfl
theorem jl_mem {ad : Nat → Nat} {q : Nat × Value} : ∀ {ls : List (Option Value)} {j : Nat}, q ∈ jl ad j ls ↔ ∃ (k : Nat) (v : Value), ls[k]? = some (some v) ∧ v.category = 1 ∧ q = (j + k, jv ad v) := by
  intro ls
  induction ls with
  | nil => intro j; simp [jl]
  | cons x t ih =>
    intro j
    have key : (∃ (k : Nat) (v : Value), t[k]? = some (some v) ∧ v.category = 1 ∧ q = (j + 1 + k, jv ad v)) ↔ (∃ (k : Nat) (v : Value), (x :: t)[k + 1]? = some (some v) ∧ v.category = 1 ∧ q = (j + (k + 1), jv ad v)) := by
      constructor
      · rintro ⟨k, v, h1, h2, h3⟩; exact ⟨k, v, by simpa using h1, h2, by rw [h3]; congr 1; omega⟩
      · rintro ⟨k, v, h1, h2, h3⟩; exact ⟨k, v, by simpa using h1, h2, by rw [h3]; congr 1; omega⟩
    cases x with
    | none =>
      simp only [jl]
      rw [ih, key]
      constructor
      · rintro ⟨k, v, h⟩; exact ⟨k + 1, v, h⟩
      · rintro ⟨k, v, h1, h⟩
        cases k with
        | zero => simp at h1
        | succ k => exact ⟨k, v, h1, h⟩
    | some v0 =>
      by_cases hc : v0.category = 1
      · simp only [jl, hc, if_true, List.mem_cons]
        rw [ih, key]
        constructor
        · rintro (h | ⟨k, v, h⟩)
          · exact ⟨0, v0, by simp, hc, h⟩
          · exact ⟨k + 1, v, h⟩
        · rintro ⟨k, v, h1, h2, h3⟩
          cases k with
          | zero => simp at h1; subst h1; exact Or.inl h3
          | succ k => exact Or.inr ⟨k, v, h1, h2, h3⟩
      · simp only [jl, hc, if_false]
        rw [ih, key]
        constructor
        · rintro ⟨k, v, h⟩; exact ⟨k + 1, v, h⟩
        · rintro ⟨k, v, h1, h2, h⟩
          cases k with
          | zero => simp at h1; subst h1; exact absurd h2 hc
          | succ k => exact ⟨k, v, h1, h2, h⟩
theorem jl_at {ad : Nat → Nat} {lsA : Array Slot} {nL i : Nat} {ls : List (Option Value)} {v : Value} (hl : lv_has lsA nL (jl ad 0 ls)) (h : ls[i]? = some (some v)) (hc : v.category = 1) : lsA[i]? = some (.val (jv ad v)) :=
  hl.2.2 (i, jv ad v) (jl_mem.mpr ⟨i, v, h, hc, by simp⟩)
theorem jl_store {ad : Nat → Nat} {lsA : Array Slot} {nL i : Nat} {ls : List (Option Value)} {v : Value} (hl : lv_has lsA nL ((i, jv ad v) :: (jl ad 0 ls).filter (fun q => !(q.1 == i) && !(q.1 + 1 == i && q.2.category == 2)))) : lv_has lsA nL (jl ad 0 (ls.set i (some v))) := by
  refine ⟨hl.1, hl.2.1, fun q hq => hl.2.2 q ?_⟩
  obtain ⟨k, u, h1, h2, h3⟩ := jl_mem.mp hq
  rw [List.getElem?_set] at h1
  by_cases hk : i = k
  · subst hk
    rw [if_pos rfl] at h1
    split at h1
    · simp only [Option.some.injEq] at h1
      subst h1
      simp [h3]
    · simp at h1
  · rw [if_neg hk] at h1
    refine List.mem_cons_of_mem _ (List.mem_filter.mpr ⟨jl_mem.mpr ⟨k, u, h1, h2, h3⟩, ?_⟩)
    have hk' : ¬ k = i := fun h => hk h.symm
    rw [h3]
    simp [jv_cat, h2, hk']
def jQ (cl : List vw_C) (cA : Nat → ClassId) (D : va_G) (ad : Nat → Nat) (A : Nat → Prop) (n : Nat) (Q : Option Value → jW → Prop) : Array Value → State → Outcome → State → Prop :=
  fun _ st oc t => (∃ (r : Option Value) (w : jW), oc = .returned (r.map (jv ad)) ∧ Q r w ∧ w.length = n ∧ va_P D cl (jw cA ad w) t.heap ∧ va_K D cl (jT cA) t ∧ va_D A (jw cA ad w)) ∧ va_F A st t
/-- what stands around a frame of ours -/
abbrev jNt : Type := List (String × Nat × MethodName × String)
def jN (Ns : jNt) (U : State) : Prop := ∀ q ∈ Ns, va_Nw (.methodLinkNest q.1 q.2.1 q.2.2.1 q.2.2.2) U
theorem jN_warm {Ns : jNt} {s U : State} (hW : s.WarmedH U.vm) (h : jN Ns s) : jN Ns U := fun q hq => va_Nw.warmM hW (h q hq)
def jC (cl : List vw_C) (Ns : jNt) (Ts : List Cond) (own : String) (cc : ByteArray) (nL : Nat) (ret : Option FieldType) (ls : List (Option Value)) (ws : jW) (p : Program) (s : State) (m : MethodId) (args : Array Value) (meth : Method) (c : Code) (H : Heap) (locs : List Loc) (D : va_G) (cA : Nat → ClassId) (ad : Nat → Nat) (A : Nat → Prop) (lsA : Array Slot) : Prop :=
  p.tables.exec = Jvm.exec ∧ c.code = cc ∧ meth.sig.returnType = ret ∧ c.maxLocals = nL ∧ meth.locks = false ∧ s.vm.findClass own = some m.cls ∧ (∀ w ∈ Ts, w.before args s = true) ∧ jN Ns s ∧ va_K D cl (jT cA) s ∧ va_P D cl (jw cA ad ws) H ∧ va_D A (jw cA ad ws) ∧ va_S A s.heap H locs ∧ lv_has lsA nL (jl ad 0 ls)
/-- from pc, with these locals, this stack, this world: the method returns, and Q of what it answers and of the world then -/
def JW (l : Launch) (cl : List vw_C) (Ns : jNt) (Ts : List Cond) (own : String) (cc : ByteArray) (nL : Nat) (ret : Option FieldType) (R : Room) (pc : Nat) (ls : List (Option Value)) (st : List Value) (ws : jW) (Q : Option Value → jW → Prop) : Prop :=
  ∀ (p : Program) (e : Env) (s : State) (m : MethodId) (args : Array Value) (below : List Frame) (meth : Method) (c : Code) (H : Heap) (locs : List Loc) (D : va_G) (cA : Nat → ClassId) (ad : Nat → Nat) (A : Nat → Prop) (lsA : Array Slot),
    jC cl Ns Ts own cc nL ret ls ws p s m args meth c H locs D cA ad A lsA → W p l e R s m args below meth c H locs 0 0 (MQ below (jQ cl cA D ad A ws.length Q) args s 0 0 A) (F0 m pc lsA (st.map (jv ad)))
def JMet (l : Launch) (cl : List vw_C) (Ns : jNt) (Tw : List Cond) (y : MethodName) (R : Room) (av : List Value) (ws : jW) (Q : Option Value → jW → Prop) : Prop :=
  ∀ (D : va_G) (cA : Nat → ClassId) (ad : Nat → Nat), Met l y Tw R (va_Pc (av.map (jv ad)) (fun U => jN Ns U ∧ va_P D cl (jw cA ad ws) U.heap ∧ va_K D cl (jT cA) U ∧ va_D (jA ad ws.length) (jw cA ad ws))) (jQ cl cA D ad (jA ad ws.length) ws.length Q) 0 0 (jA ad ws.length)
theorem jl_entry {ad : Nat → Nat} {q : Nat × Value} : ∀ (av : List Value) (i k : Nat), (∀ v ∈ av, v.category = 1) → q ∈ jl ad i (av.map some ++ List.replicate k none) → q ∈ lv_args i (av.map (jv ad)) := by
  intro av
  induction av with
  | nil =>
    intro i k _ hq
    obtain ⟨j, v, h1, -⟩ := jl_mem.mp hq
    simp only [List.map_nil, List.nil_append, List.getElem?_replicate] at h1
    split at h1 <;> simp at h1
  | cons v t ih =>
    intro i k hc hq
    have hv : v.category = 1 := hc v List.mem_cons_self
    simp only [List.map_cons, List.cons_append, jl, hv, if_true, lv_args] at hq ⊢
    rw [show (if (jv ad v).category = 2 then i + 2 else i + 1) = i + 1 by rw [jv_cat, hv]; rfl]
    rcases List.mem_cons.mp hq with h | h
    · exact List.mem_cons.mpr (Or.inl h)
    · exact List.mem_cons_of_mem _ (ih (i + 1) k (fun u hu => hc u (List.mem_cons_of_mem _ hu)) h)
theorem j_sl (ad : Nat → Nat) : ∀ (av : List Value), (∀ v ∈ av, v.category = 1) → (lg_sl (av.map (jv ad))).length = av.length := by
  intro av
  induction av with
  | nil => intro _; rfl
  | cons v t ih =>
    intro hc
    have hv : v.category = 1 := hc v List.mem_cons_self
    have := ih (fun u hu => hc u (List.mem_cons_of_mem _ hu))
    simp only [lg_sl, List.map_cons, List.flatMap_cons, List.length_append, List.length_cons] at this ⊢
    rw [this, jv_cat, hv]
    simp
    omega
theorem J_enter {l : Launch} {cl : List vw_C} {Ns : jNt} {Ts : List Cond} {y : MethodName} {cc : ByteArray} {nL : Nat} {ret : Option FieldType} {R : Room} {av : List Value} {ws : jW} {Q : Option Value → jW → Prop} (hy : plainName y.cls = true) (hc0 : av.all (fun v => v.category == 1) = true) (hn : av.length ≤ nL)
    (k : JW l cl Ns Ts y.cls cc nL ret R 0 (av.map some ++ List.replicate (nL - av.length) none) [] ws Q) : JMet l cl Ns (.code y cc nL ret :: Ts) y R av ws Q := by
  have hc : ∀ v ∈ av, v.category = 1 := fun v hv => by simpa using List.all_eq_true.mp hc0 v hv
  intro D cA ad
  refine Met.ofW (cc := cc) (maxL := nL) (ret := ret) hy rfl ?_
  intro p e s m args below meth c s₁ B hml hv
  obtain ⟨rfl, hN, hP, hK, hD⟩ := hv
  have hts := atoms_spec (ws := .code y cc nL ret :: Ts) B.pre
  have hown : s.vm.findClass y.cls = some m.cls := findClass_of_methodNamed B.named
  have hl := lv_entry (av.map (jv ad)) (n := nL) (by rw [j_sl ad av hc]; exact hn)
  rw [lg_entry_eq]
  exact k p e s m _ below meth c s.heap [] D cA ad (jA ad ws.length) _ ⟨B.exec, B.bytes, B.returns, hml, B.notSynchronized, hown, fun w hw => hts w (List.mem_cons_of_mem _ hw), hN, hK, hP, hD, va_S.rf, ⟨hl.1, hl.2.1, fun q hq => hl.2.2 q (jl_entry av 0 _ hc hq)⟩⟩
section JR
variable {l : Launch} {cl : List vw_C} {Ns : jNt} {Ts : List Cond} {own : String} {cc : ByteArray} {nL : Nat} {ret : Option FieldType} {R : Room} {pc : Nat} {ls : List (Option Value)} {st : List Value} {ws : jW} {Q : Option Value → jW → Prop}
/-- the same frame, written otherwise -/
theorem J_eq {pc' : Nat} {ls' : List (Option Value)} {st' : List Value} {ws' : jW} (h1 : pc = pc') (h2 : ls = ls') (h3 : st = st') (h4 : ws = ws') (k : JW l cl Ns Ts own cc nL ret R pc' ls' st' ws' Q) : JW l cl Ns Ts own cc nL ret R pc ls st ws Q := by
  subst h1; subst h2; subst h3; subst h4; exact k
/-- fewer known locals -/
theorem J_forget {ls' : List (Option Value)} (h : ∀ (k : Nat) (v : Value), ls'[k]? = some (some v) → ls[k]? = some (some v)) (k : JW l cl Ns Ts own cc nL ret R pc ls' st ws Q) : JW l cl Ns Ts own cc nL ret R pc ls st ws Q := by
  intro p e s m args below meth c H locs D cA ad A lsA ⟨hx, hb, hr, hml, hlk, hown, hts, hN, hK, hP, hD, hS, hl⟩
  refine k p e s m args below meth c H locs D cA ad A lsA ⟨hx, hb, hr, hml, hlk, hown, hts, hN, hK, hP, hD, hS, hl.1, hl.2.1, fun q hq => hl.2.2 q ?_⟩
  obtain ⟨k, v, h1, h2⟩ := jl_mem.mp hq
  exact jl_mem.mpr ⟨k, v, h k v h1, h2⟩
theorem J_post {Q' : Option Value → jW → Prop} (h : ∀ r w, Q' r w → Q r w) (k : JW l cl Ns Ts own cc nL ret R pc ls st ws Q') : JW l cl Ns Ts own cc nL ret R pc ls st ws Q := by
  intro p e s m args below meth c H locs D cA ad A lsA X T hT Y
  obtain ⟨t, a, o, b1, b2, ⟨⟨r, w, c1, c2, c3⟩, c4⟩, b4⟩ := k p e s m args below meth c H locs D cA ad A lsA X T hT Y
  exact ⟨t, a, o, b1, b2, ⟨⟨r, w, c1, h r w c2, c3⟩, c4⟩, b4⟩
theorem J_iconst {n : Int} {v : Int32} (hd : decode cc pc = .ok (.iconst n, 1)) (hv : Int32.ofInt n = v) (k : JW l cl Ns Ts own cc nL ret R (pc + 1) ls (.int v :: st) ws Q) : JW l cl Ns Ts own cc nL ret R pc ls st ws Q := by
  intro p e s m args below meth c H locs D cA ad A lsA X
  obtain ⟨hx, hb, hr, hml, hlk, hown, hts, hN, hK, hP, hD, hS, hl⟩ := id X
  exact lv_iconst hx hb hd hv (k p e s m args below meth c H locs D cA ad A lsA X)
theorem J_bipush {n : Int} {v : Int32} (hd : decode cc pc = .ok (.bipush n, 2)) (hv : (Int8.ofInt n).toInt32 = v) (k : JW l cl Ns Ts own cc nL ret R (pc + 2) ls (.int v :: st) ws Q) : JW l cl Ns Ts own cc nL ret R pc ls st ws Q := by
  intro p e s m args below meth c H locs D cA ad A lsA X
  obtain ⟨hx, hb, hr, hml, hlk, hown, hts, hN, hK, hP, hD, hS, hl⟩ := id X
  exact lv_bipush hx hb hd hv (k p e s m args below meth c H locs D cA ad A lsA X)
theorem J_sipush {n : Int} {v : Int32} (hd : decode cc pc = .ok (.sipush n, 3)) (hv : (Int16.ofInt n).toInt32 = v) (k : JW l cl Ns Ts own cc nL ret R (pc + 3) ls (.int v :: st) ws Q) : JW l cl Ns Ts own cc nL ret R pc ls st ws Q := by
  intro p e s m args below meth c H locs D cA ad A lsA X
  obtain ⟨hx, hb, hr, hml, hlk, hown, hts, hN, hK, hP, hD, hS, hl⟩ := id X
  exact lv_sipush hx hb hd hv (k p e s m args below meth c H locs D cA ad A lsA X)
theorem J_ldc {index : Nat} {v : Int32} (hd : decode cc pc = .ok (.ldc index, 2)) (hc : Cond.constant own index v ∈ Ts) (k : JW l cl Ns Ts own cc nL ret R (pc + 2) ls (.int v :: st) ws Q) : JW l cl Ns Ts own cc nL ret R pc ls st ws Q := by
  intro p e s m args below meth c H locs D cA ad A lsA X
  obtain ⟨hx, hb, hr, hml, hlk, hown, hts, hN, hK, hP, hD, hS, hl⟩ := id X
  exact lv_ldc hx hb hown (hts _ hc) hd (k p e s m args below meth c H locs D cA ad A lsA X)
theorem J_ldcw {index : Nat} {v : Int32} (hd : decode cc pc = .ok (.ldc_w index, 3)) (hc : Cond.constant own index v ∈ Ts) (k : JW l cl Ns Ts own cc nL ret R (pc + 3) ls (.int v :: st) ws Q) : JW l cl Ns Ts own cc nL ret R pc ls st ws Q := by
  intro p e s m args below meth c H locs D cA ad A lsA X
  obtain ⟨hx, hb, hr, hml, hlk, hown, hts, hN, hK, hP, hD, hS, hl⟩ := id X
  exact lv_ldcw hx hb hown (hts _ hc) hd (k p e s m args below meth c H locs D cA ad A lsA X)
theorem J_iload_n {i : Fin 4} {x : Int32} (hd : decode cc pc = .ok (.iload_n i, 1)) (h : ls[(i : Nat)]? = some (some (.int x))) (k : JW l cl Ns Ts own cc nL ret R (pc + 1) ls (.int x :: st) ws Q) : JW l cl Ns Ts own cc nL ret R pc ls st ws Q := by
  intro p e s m args below meth c H locs D cA ad A lsA X
  obtain ⟨hx, hb, hr, hml, hlk, hown, hts, hN, hK, hP, hD, hS, hl⟩ := id X
  exact lv_iload_n hx hb hd rfl (jl_at hl h rfl) (k p e s m args below meth c H locs D cA ad A lsA X)
theorem J_iload {i : Nat} {x : Int32} (hd : decode cc pc = .ok (.iload i, 2)) (h : ls[i]? = some (some (.int x))) (k : JW l cl Ns Ts own cc nL ret R (pc + 2) ls (.int x :: st) ws Q) : JW l cl Ns Ts own cc nL ret R pc ls st ws Q := by
  intro p e s m args below meth c H locs D cA ad A lsA X
  obtain ⟨hx, hb, hr, hml, hlk, hown, hts, hN, hK, hP, hD, hS, hl⟩ := id X
  exact lv_iload hx hb hd (jl_at hl h rfl) (k p e s m args below meth c H locs D cA ad A lsA X)
theorem J_aload_n {i : Fin 4} {x : Nat} (hd : decode cc pc = .ok (.aload_n i, 1)) (h : ls[(i : Nat)]? = some (some (.ref x))) (k : JW l cl Ns Ts own cc nL ret R (pc + 1) ls (.ref x :: st) ws Q) : JW l cl Ns Ts own cc nL ret R pc ls st ws Q := by
  intro p e s m args below meth c H locs D cA ad A lsA X
  obtain ⟨hx, hb, hr, hml, hlk, hown, hts, hN, hK, hP, hD, hS, hl⟩ := id X
  exact lv_aload_n hx hb hd rfl (jl_at hl h rfl) (k p e s m args below meth c H locs D cA ad A lsA X)
theorem J_aload {i : Nat} {x : Nat} (hd : decode cc pc = .ok (.aload i, 2)) (h : ls[i]? = some (some (.ref x))) (k : JW l cl Ns Ts own cc nL ret R (pc + 2) ls (.ref x :: st) ws Q) : JW l cl Ns Ts own cc nL ret R pc ls st ws Q := by
  intro p e s m args below meth c H locs D cA ad A lsA X
  obtain ⟨hx, hb, hr, hml, hlk, hown, hts, hN, hK, hP, hD, hS, hl⟩ := id X
  exact lv_aload hx hb hd (jl_at hl h rfl) (k p e s m args below meth c H locs D cA ad A lsA X)
theorem J_istore_n {i : Fin 4} {x : Int32} (hd : decode cc pc = .ok (.istore_n i, 1)) (hn : (i : Nat) < nL) (k : JW l cl Ns Ts own cc nL ret R (pc + 1) (ls.set (i : Nat) (some (.int x))) st ws Q) : JW l cl Ns Ts own cc nL ret R pc ls (.int x :: st) ws Q := by
  intro p e s m args below meth c H locs D cA ad A lsA X
  obtain ⟨hx, hb, hr, hml, hlk, hown, hts, hN, hK, hP, hD, hS, hl⟩ := id X
  exact lv_istore_n hx hb hd rfl hl hn rfl (fun ls' hl' => k p e s m args below meth c H locs D cA ad A ls' ⟨hx, hb, hr, hml, hlk, hown, hts, hN, hK, hP, hD, hS, jl_store (v := .int x) hl'⟩)
theorem J_istore {i : Nat} {x : Int32} (hd : decode cc pc = .ok (.istore i, 2)) (hn : i < nL) (k : JW l cl Ns Ts own cc nL ret R (pc + 2) (ls.set i (some (.int x))) st ws Q) : JW l cl Ns Ts own cc nL ret R pc ls (.int x :: st) ws Q := by
  intro p e s m args below meth c H locs D cA ad A lsA X
  obtain ⟨hx, hb, hr, hml, hlk, hown, hts, hN, hK, hP, hD, hS, hl⟩ := id X
  exact lv_istore hx hb hd hl hn rfl (fun ls' hl' => k p e s m args below meth c H locs D cA ad A ls' ⟨hx, hb, hr, hml, hlk, hown, hts, hN, hK, hP, hD, hS, jl_store (v := .int x) hl'⟩)
theorem J_astore_n {i : Fin 4} {x : Nat} (hd : decode cc pc = .ok (.astore_n i, 1)) (hn : (i : Nat) < nL) (k : JW l cl Ns Ts own cc nL ret R (pc + 1) (ls.set (i : Nat) (some (.ref x))) st ws Q) : JW l cl Ns Ts own cc nL ret R pc ls (.ref x :: st) ws Q := by
  intro p e s m args below meth c H locs D cA ad A lsA X
  obtain ⟨hx, hb, hr, hml, hlk, hown, hts, hN, hK, hP, hD, hS, hl⟩ := id X
  exact lv_astore_n hx hb hd rfl hl hn rfl (fun ls' hl' => k p e s m args below meth c H locs D cA ad A ls' ⟨hx, hb, hr, hml, hlk, hown, hts, hN, hK, hP, hD, hS, jl_store (v := .ref x) hl'⟩)
theorem J_astore {i : Nat} {x : Nat} (hd : decode cc pc = .ok (.astore i, 2)) (hn : i < nL) (k : JW l cl Ns Ts own cc nL ret R (pc + 2) (ls.set i (some (.ref x))) st ws Q) : JW l cl Ns Ts own cc nL ret R pc ls (.ref x :: st) ws Q := by
  intro p e s m args below meth c H locs D cA ad A lsA X
  obtain ⟨hx, hb, hr, hml, hlk, hown, hts, hN, hK, hP, hD, hS, hl⟩ := id X
  exact lv_astore hx hb hd hl hn rfl (fun ls' hl' => k p e s m args below meth c H locs D cA ad A ls' ⟨hx, hb, hr, hml, hlk, hown, hts, hN, hK, hP, hD, hS, jl_store (v := .ref x) hl'⟩)
theorem J_iinc {i : Nat} {n : Int} {x v : Int32} (hd : decode cc pc = .ok (.iinc i n, 3)) (h : ls[i]? = some (some (.int x))) (hv : x + Int32.ofInt n = v) (hn : i < nL) (k : JW l cl Ns Ts own cc nL ret R (pc + 3) (ls.set i (some (.int v))) st ws Q) : JW l cl Ns Ts own cc nL ret R pc ls st ws Q := by
  intro p e s m args below meth c H locs D cA ad A lsA X
  obtain ⟨hx, hb, hr, hml, hlk, hown, hts, hN, hK, hP, hD, hS, hl⟩ := id X
  obtain ⟨j, hj⟩ := List.getElem?_of_mem (jl_mem.mpr ⟨i, .int x, h, rfl, rfl⟩ : (0 + i, jv ad (.int x)) ∈ jl ad 0 ls)
  rw [Nat.zero_add] at hj
  exact lv_iinc hx hb hd hl (k := j) hj hv hn rfl (fun ls' hl' => k p e s m args below meth c H locs D cA ad A ls' ⟨hx, hb, hr, hml, hlk, hown, hts, hN, hK, hP, hD, hS, jl_store (v := .int v) hl'⟩)
theorem J_iadd {x y : Int32} (hd : decode cc pc = .ok (.iadd, 1))  (k : JW l cl Ns Ts own cc nL ret R (pc + 1) ls (.int (x + y) :: st) ws Q) : JW l cl Ns Ts own cc nL ret R pc ls (.int y :: .int x :: st) ws Q := by
  intro p e s m args below meth c H locs D cA ad A lsA X
  obtain ⟨hx, hb, hr, hml, hlk, hown, hts, hN, hK, hP, hD, hS, hl⟩ := id X
  exact lv_iadd hx hb hd (k p e s m args below meth c H locs D cA ad A lsA X)
theorem J_isub {x y : Int32} (hd : decode cc pc = .ok (.isub, 1))  (k : JW l cl Ns Ts own cc nL ret R (pc + 1) ls (.int (x - y) :: st) ws Q) : JW l cl Ns Ts own cc nL ret R pc ls (.int y :: .int x :: st) ws Q := by
  intro p e s m args below meth c H locs D cA ad A lsA X
  obtain ⟨hx, hb, hr, hml, hlk, hown, hts, hN, hK, hP, hD, hS, hl⟩ := id X
  exact lv_isub hx hb hd (k p e s m args below meth c H locs D cA ad A lsA X)
theorem J_imul {x y : Int32} (hd : decode cc pc = .ok (.imul, 1))  (k : JW l cl Ns Ts own cc nL ret R (pc + 1) ls (.int (x * y) :: st) ws Q) : JW l cl Ns Ts own cc nL ret R pc ls (.int y :: .int x :: st) ws Q := by
  intro p e s m args below meth c H locs D cA ad A lsA X
  obtain ⟨hx, hb, hr, hml, hlk, hown, hts, hN, hK, hP, hD, hS, hl⟩ := id X
  exact lv_imul hx hb hd (k p e s m args below meth c H locs D cA ad A lsA X)
theorem J_iand {x y : Int32} (hd : decode cc pc = .ok (.iand, 1))  (k : JW l cl Ns Ts own cc nL ret R (pc + 1) ls (.int (x &&& y) :: st) ws Q) : JW l cl Ns Ts own cc nL ret R pc ls (.int y :: .int x :: st) ws Q := by
  intro p e s m args below meth c H locs D cA ad A lsA X
  obtain ⟨hx, hb, hr, hml, hlk, hown, hts, hN, hK, hP, hD, hS, hl⟩ := id X
  exact lv_iand hx hb hd (k p e s m args below meth c H locs D cA ad A lsA X)
theorem J_ior {x y : Int32} (hd : decode cc pc = .ok (.ior, 1))  (k : JW l cl Ns Ts own cc nL ret R (pc + 1) ls (.int (x ||| y) :: st) ws Q) : JW l cl Ns Ts own cc nL ret R pc ls (.int y :: .int x :: st) ws Q := by
  intro p e s m args below meth c H locs D cA ad A lsA X
  obtain ⟨hx, hb, hr, hml, hlk, hown, hts, hN, hK, hP, hD, hS, hl⟩ := id X
  exact lv_ior hx hb hd (k p e s m args below meth c H locs D cA ad A lsA X)
theorem J_ixor {x y : Int32} (hd : decode cc pc = .ok (.ixor, 1))  (k : JW l cl Ns Ts own cc nL ret R (pc + 1) ls (.int (x ^^^ y) :: st) ws Q) : JW l cl Ns Ts own cc nL ret R pc ls (.int y :: .int x :: st) ws Q := by
  intro p e s m args below meth c H locs D cA ad A lsA X
  obtain ⟨hx, hb, hr, hml, hlk, hown, hts, hN, hK, hP, hD, hS, hl⟩ := id X
  exact lv_ixor hx hb hd (k p e s m args below meth c H locs D cA ad A lsA X)
theorem J_ishl {x y : Int32} (hd : decode cc pc = .ok (.ishl, 1))  (k : JW l cl Ns Ts own cc nL ret R (pc + 1) ls (.int (x <<< (y &&& 31)) :: st) ws Q) : JW l cl Ns Ts own cc nL ret R pc ls (.int y :: .int x :: st) ws Q := by
  intro p e s m args below meth c H locs D cA ad A lsA X
  obtain ⟨hx, hb, hr, hml, hlk, hown, hts, hN, hK, hP, hD, hS, hl⟩ := id X
  exact lv_ishl hx hb hd (k p e s m args below meth c H locs D cA ad A lsA X)
theorem J_ishr {x y : Int32} (hd : decode cc pc = .ok (.ishr, 1))  (k : JW l cl Ns Ts own cc nL ret R (pc + 1) ls (.int (x >>> (y &&& 31)) :: st) ws Q) : JW l cl Ns Ts own cc nL ret R pc ls (.int y :: .int x :: st) ws Q := by
  intro p e s m args below meth c H locs D cA ad A lsA X
  obtain ⟨hx, hb, hr, hml, hlk, hown, hts, hN, hK, hP, hD, hS, hl⟩ := id X
  exact lv_ishr hx hb hd (k p e s m args below meth c H locs D cA ad A lsA X)
theorem J_iushr {x y : Int32} (hd : decode cc pc = .ok (.iushr, 1))  (k : JW l cl Ns Ts own cc nL ret R (pc + 1) ls (.int ((x.toUInt32 >>> (y.toUInt32 &&& Int32.toUInt32 31)).toInt32) :: st) ws Q) : JW l cl Ns Ts own cc nL ret R pc ls (.int y :: .int x :: st) ws Q := by
  intro p e s m args below meth c H locs D cA ad A lsA X
  obtain ⟨hx, hb, hr, hml, hlk, hown, hts, hN, hK, hP, hD, hS, hl⟩ := id X
  exact lv_iushr hx hb hd rfl (k p e s m args below meth c H locs D cA ad A lsA X)
theorem J_ineg {x : Int32} (hd : decode cc pc = .ok (.ineg, 1))  (k : JW l cl Ns Ts own cc nL ret R (pc + 1) ls (.int (-x) :: st) ws Q) : JW l cl Ns Ts own cc nL ret R pc ls (.int x :: st) ws Q := by
  intro p e s m args below meth c H locs D cA ad A lsA X
  obtain ⟨hx, hb, hr, hml, hlk, hown, hts, hN, hK, hP, hD, hS, hl⟩ := id X
  exact lv_ineg hx hb hd (k p e s m args below meth c H locs D cA ad A lsA X)
theorem J_idiv {x y : Int32} (hd : decode cc pc = .ok (.idiv, 1)) (hne : ¬ y = 0) (k : JW l cl Ns Ts own cc nL ret R (pc + 1) ls (.int (x / y) :: st) ws Q) : JW l cl Ns Ts own cc nL ret R pc ls (.int y :: .int x :: st) ws Q := by
  intro p e s m args below meth c H locs D cA ad A lsA X
  obtain ⟨hx, hb, hr, hml, hlk, hown, hts, hN, hK, hP, hD, hS, hl⟩ := id X
  exact lv_idiv hx hb hd hne (k p e s m args below meth c H locs D cA ad A lsA X)
theorem J_irem {x y : Int32} (hd : decode cc pc = .ok (.irem, 1)) (hne : ¬ y = 0) (k : JW l cl Ns Ts own cc nL ret R (pc + 1) ls (.int (x - x / y * y) :: st) ws Q) : JW l cl Ns Ts own cc nL ret R pc ls (.int y :: .int x :: st) ws Q := by
  intro p e s m args below meth c H locs D cA ad A lsA X
  obtain ⟨hx, hb, hr, hml, hlk, hown, hts, hN, hK, hP, hD, hS, hl⟩ := id X
  exact lv_irem hx hb hd hne (k p e s m args below meth c H locs D cA ad A lsA X)
theorem J_dup {v : Value} (hd : decode cc pc = .ok (.dup, 1)) (hv : v.category = 1) (k : JW l cl Ns Ts own cc nL ret R (pc + 1) ls (v :: v :: st) ws Q) : JW l cl Ns Ts own cc nL ret R pc ls (v :: st) ws Q := by
  intro p e s m args below meth c H locs D cA ad A lsA X
  obtain ⟨hx, hb, hr, hml, hlk, hown, hts, hN, hK, hP, hD, hS, hl⟩ := id X
  exact lv_dup hx hb hd (by rw [jv_cat]; exact hv) (k p e s m args below meth c H locs D cA ad A lsA X)
theorem J_pop {v : Value} (hd : decode cc pc = .ok (.pop, 1)) (hv : v.category = 1) (k : JW l cl Ns Ts own cc nL ret R (pc + 1) ls st ws Q) : JW l cl Ns Ts own cc nL ret R pc ls (v :: st) ws Q := by
  intro p e s m args below meth c H locs D cA ad A lsA X
  obtain ⟨hx, hb, hr, hml, hlk, hown, hts, hN, hK, hP, hD, hS, hl⟩ := id X
  exact lv_pop hx hb hd (by rw [jv_cat]; exact hv) (k p e s m args below meth c H locs D cA ad A lsA X)
theorem J_dup_x1 {v u : Value} (hd : decode cc pc = .ok (.dup_x1, 1)) (hv : v.category = 1) (hu : u.category = 1) (k : JW l cl Ns Ts own cc nL ret R (pc + 1) ls (v :: u :: v :: st) ws Q) : JW l cl Ns Ts own cc nL ret R pc ls (v :: u :: st) ws Q := by
  intro p e s m args below meth c H locs D cA ad A lsA X
  obtain ⟨hx, hb, hr, hml, hlk, hown, hts, hN, hK, hP, hD, hS, hl⟩ := id X
  exact lv_dup_x1 hx hb hd (by rw [jv_cat]; exact hv) (by rw [jv_cat]; exact hu) (k p e s m args below meth c H locs D cA ad A lsA X)
theorem J_dup_x2 {v u t : Value} (hd : decode cc pc = .ok (.dup_x2, 1)) (hv : v.category = 1) (hu : u.category = 1) (ht : t.category = 1) (k : JW l cl Ns Ts own cc nL ret R (pc + 1) ls (v :: u :: t :: v :: st) ws Q) : JW l cl Ns Ts own cc nL ret R pc ls (v :: u :: t :: st) ws Q := by
  intro p e s m args below meth c H locs D cA ad A lsA X
  obtain ⟨hx, hb, hr, hml, hlk, hown, hts, hN, hK, hP, hD, hS, hl⟩ := id X
  exact lv_dup_x2 hx hb hd (by rw [jv_cat]; exact hv) (by rw [jv_cat]; exact hu) (by rw [jv_cat]; exact ht) (k p e s m args below meth c H locs D cA ad A lsA X)
theorem J_dup2 {v u : Value} (hd : decode cc pc = .ok (.dup2, 1)) (hv : v.category = 1) (hu : u.category = 1) (k : JW l cl Ns Ts own cc nL ret R (pc + 1) ls (v :: u :: v :: u :: st) ws Q) : JW l cl Ns Ts own cc nL ret R pc ls (v :: u :: st) ws Q := by
  intro p e s m args below meth c H locs D cA ad A lsA X
  obtain ⟨hx, hb, hr, hml, hlk, hown, hts, hN, hK, hP, hD, hS, hl⟩ := id X
  exact lv_dup2_11 hx hb hd (by rw [jv_cat]; exact hv) (by rw [jv_cat]; exact hu) (k p e s m args below meth c H locs D cA ad A lsA X)
theorem J_if_eq {x : Int32} {off : Int} {tgt : Nat} (hd : decode cc pc = .ok (.ifCond .eq off, 3)) (ht : (pc : Int) + off = (tgt : Int)) (kt : x = 0 → JW l cl Ns Ts own cc nL ret R tgt ls st ws Q) (kf : ¬ x = 0 → JW l cl Ns Ts own cc nL ret R (pc + 3) ls st ws Q) : JW l cl Ns Ts own cc nL ret R pc ls (.int x :: st) ws Q := by
  intro p e s m args below meth c H locs D cA ad A lsA X
  obtain ⟨hx, hb, hr, hml, hlk, hown, hts, hN, hK, hP, hD, hS, hl⟩ := id X
  exact lv_if_eq hx hb hd ht (fun h => kt h p e s m args below meth c H locs D cA ad A lsA X) (fun h => kf h p e s m args below meth c H locs D cA ad A lsA X)
theorem J_icmp_eq {x y : Int32} {off : Int} {tgt : Nat} (hd : decode cc pc = .ok (.if_icmp .eq off, 3)) (ht : (pc : Int) + off = (tgt : Int)) (kt : x = y → JW l cl Ns Ts own cc nL ret R tgt ls st ws Q) (kf : ¬ x = y → JW l cl Ns Ts own cc nL ret R (pc + 3) ls st ws Q) : JW l cl Ns Ts own cc nL ret R pc ls (.int y :: .int x :: st) ws Q := by
  intro p e s m args below meth c H locs D cA ad A lsA X
  obtain ⟨hx, hb, hr, hml, hlk, hown, hts, hN, hK, hP, hD, hS, hl⟩ := id X
  exact lv_icmp_eq hx hb hd ht (fun h => kt h p e s m args below meth c H locs D cA ad A lsA X) (fun h => kf h p e s m args below meth c H locs D cA ad A lsA X)
theorem J_if_ne {x : Int32} {off : Int} {tgt : Nat} (hd : decode cc pc = .ok (.ifCond .ne off, 3)) (ht : (pc : Int) + off = (tgt : Int)) (kt : ¬ x = 0 → JW l cl Ns Ts own cc nL ret R tgt ls st ws Q) (kf : x = 0 → JW l cl Ns Ts own cc nL ret R (pc + 3) ls st ws Q) : JW l cl Ns Ts own cc nL ret R pc ls (.int x :: st) ws Q := by
  intro p e s m args below meth c H locs D cA ad A lsA X
  obtain ⟨hx, hb, hr, hml, hlk, hown, hts, hN, hK, hP, hD, hS, hl⟩ := id X
  exact lv_if_ne hx hb hd ht (fun h => kt h p e s m args below meth c H locs D cA ad A lsA X) (fun h => kf h p e s m args below meth c H locs D cA ad A lsA X)
theorem J_icmp_ne {x y : Int32} {off : Int} {tgt : Nat} (hd : decode cc pc = .ok (.if_icmp .ne off, 3)) (ht : (pc : Int) + off = (tgt : Int)) (kt : ¬ x = y → JW l cl Ns Ts own cc nL ret R tgt ls st ws Q) (kf : x = y → JW l cl Ns Ts own cc nL ret R (pc + 3) ls st ws Q) : JW l cl Ns Ts own cc nL ret R pc ls (.int y :: .int x :: st) ws Q := by
  intro p e s m args below meth c H locs D cA ad A lsA X
  obtain ⟨hx, hb, hr, hml, hlk, hown, hts, hN, hK, hP, hD, hS, hl⟩ := id X
  exact lv_icmp_ne hx hb hd ht (fun h => kt h p e s m args below meth c H locs D cA ad A lsA X) (fun h => kf h p e s m args below meth c H locs D cA ad A lsA X)
theorem J_if_lt {x : Int32} {off : Int} {tgt : Nat} (hd : decode cc pc = .ok (.ifCond .lt off, 3)) (ht : (pc : Int) + off = (tgt : Int)) (kt : x < 0 → JW l cl Ns Ts own cc nL ret R tgt ls st ws Q) (kf : ¬ x < 0 → JW l cl Ns Ts own cc nL ret R (pc + 3) ls st ws Q) : JW l cl Ns Ts own cc nL ret R pc ls (.int x :: st) ws Q := by
  intro p e s m args below meth c H locs D cA ad A lsA X
  obtain ⟨hx, hb, hr, hml, hlk, hown, hts, hN, hK, hP, hD, hS, hl⟩ := id X
  exact lv_if_lt hx hb hd ht (fun h => kt h p e s m args below meth c H locs D cA ad A lsA X) (fun h => kf h p e s m args below meth c H locs D cA ad A lsA X)
theorem J_icmp_lt {x y : Int32} {off : Int} {tgt : Nat} (hd : decode cc pc = .ok (.if_icmp .lt off, 3)) (ht : (pc : Int) + off = (tgt : Int)) (kt : x < y → JW l cl Ns Ts own cc nL ret R tgt ls st ws Q) (kf : ¬ x < y → JW l cl Ns Ts own cc nL ret R (pc + 3) ls st ws Q) : JW l cl Ns Ts own cc nL ret R pc ls (.int y :: .int x :: st) ws Q := by
  intro p e s m args below meth c H locs D cA ad A lsA X
  obtain ⟨hx, hb, hr, hml, hlk, hown, hts, hN, hK, hP, hD, hS, hl⟩ := id X
  exact lv_icmp_lt hx hb hd ht (fun h => kt h p e s m args below meth c H locs D cA ad A lsA X) (fun h => kf h p e s m args below meth c H locs D cA ad A lsA X)
theorem J_if_ge {x : Int32} {off : Int} {tgt : Nat} (hd : decode cc pc = .ok (.ifCond .ge off, 3)) (ht : (pc : Int) + off = (tgt : Int)) (kt : 0 ≤ x → JW l cl Ns Ts own cc nL ret R tgt ls st ws Q) (kf : ¬ 0 ≤ x → JW l cl Ns Ts own cc nL ret R (pc + 3) ls st ws Q) : JW l cl Ns Ts own cc nL ret R pc ls (.int x :: st) ws Q := by
  intro p e s m args below meth c H locs D cA ad A lsA X
  obtain ⟨hx, hb, hr, hml, hlk, hown, hts, hN, hK, hP, hD, hS, hl⟩ := id X
  exact lv_if_ge hx hb hd ht (fun h => kt h p e s m args below meth c H locs D cA ad A lsA X) (fun h => kf h p e s m args below meth c H locs D cA ad A lsA X)
theorem J_icmp_ge {x y : Int32} {off : Int} {tgt : Nat} (hd : decode cc pc = .ok (.if_icmp .ge off, 3)) (ht : (pc : Int) + off = (tgt : Int)) (kt : y ≤ x → JW l cl Ns Ts own cc nL ret R tgt ls st ws Q) (kf : ¬ y ≤ x → JW l cl Ns Ts own cc nL ret R (pc + 3) ls st ws Q) : JW l cl Ns Ts own cc nL ret R pc ls (.int y :: .int x :: st) ws Q := by
  intro p e s m args below meth c H locs D cA ad A lsA X
  obtain ⟨hx, hb, hr, hml, hlk, hown, hts, hN, hK, hP, hD, hS, hl⟩ := id X
  exact lv_icmp_ge hx hb hd ht (fun h => kt h p e s m args below meth c H locs D cA ad A lsA X) (fun h => kf h p e s m args below meth c H locs D cA ad A lsA X)
theorem J_if_gt {x : Int32} {off : Int} {tgt : Nat} (hd : decode cc pc = .ok (.ifCond .gt off, 3)) (ht : (pc : Int) + off = (tgt : Int)) (kt : 0 < x → JW l cl Ns Ts own cc nL ret R tgt ls st ws Q) (kf : ¬ 0 < x → JW l cl Ns Ts own cc nL ret R (pc + 3) ls st ws Q) : JW l cl Ns Ts own cc nL ret R pc ls (.int x :: st) ws Q := by
  intro p e s m args below meth c H locs D cA ad A lsA X
  obtain ⟨hx, hb, hr, hml, hlk, hown, hts, hN, hK, hP, hD, hS, hl⟩ := id X
  exact lv_if_gt hx hb hd ht (fun h => kt h p e s m args below meth c H locs D cA ad A lsA X) (fun h => kf h p e s m args below meth c H locs D cA ad A lsA X)
theorem J_icmp_gt {x y : Int32} {off : Int} {tgt : Nat} (hd : decode cc pc = .ok (.if_icmp .gt off, 3)) (ht : (pc : Int) + off = (tgt : Int)) (kt : y < x → JW l cl Ns Ts own cc nL ret R tgt ls st ws Q) (kf : ¬ y < x → JW l cl Ns Ts own cc nL ret R (pc + 3) ls st ws Q) : JW l cl Ns Ts own cc nL ret R pc ls (.int y :: .int x :: st) ws Q := by
  intro p e s m args below meth c H locs D cA ad A lsA X
  obtain ⟨hx, hb, hr, hml, hlk, hown, hts, hN, hK, hP, hD, hS, hl⟩ := id X
  exact lv_icmp_gt hx hb hd ht (fun h => kt h p e s m args below meth c H locs D cA ad A lsA X) (fun h => kf h p e s m args below meth c H locs D cA ad A lsA X)
theorem J_if_le {x : Int32} {off : Int} {tgt : Nat} (hd : decode cc pc = .ok (.ifCond .le off, 3)) (ht : (pc : Int) + off = (tgt : Int)) (kt : x ≤ 0 → JW l cl Ns Ts own cc nL ret R tgt ls st ws Q) (kf : ¬ x ≤ 0 → JW l cl Ns Ts own cc nL ret R (pc + 3) ls st ws Q) : JW l cl Ns Ts own cc nL ret R pc ls (.int x :: st) ws Q := by
  intro p e s m args below meth c H locs D cA ad A lsA X
  obtain ⟨hx, hb, hr, hml, hlk, hown, hts, hN, hK, hP, hD, hS, hl⟩ := id X
  exact lv_if_le hx hb hd ht (fun h => kt h p e s m args below meth c H locs D cA ad A lsA X) (fun h => kf h p e s m args below meth c H locs D cA ad A lsA X)
theorem J_icmp_le {x y : Int32} {off : Int} {tgt : Nat} (hd : decode cc pc = .ok (.if_icmp .le off, 3)) (ht : (pc : Int) + off = (tgt : Int)) (kt : x ≤ y → JW l cl Ns Ts own cc nL ret R tgt ls st ws Q) (kf : ¬ x ≤ y → JW l cl Ns Ts own cc nL ret R (pc + 3) ls st ws Q) : JW l cl Ns Ts own cc nL ret R pc ls (.int y :: .int x :: st) ws Q := by
  intro p e s m args below meth c H locs D cA ad A lsA X
  obtain ⟨hx, hb, hr, hml, hlk, hown, hts, hN, hK, hP, hD, hS, hl⟩ := id X
  exact lv_icmp_le hx hb hd ht (fun h => kt h p e s m args below meth c H locs D cA ad A lsA X) (fun h => kf h p e s m args below meth c H locs D cA ad A lsA X)
theorem J_goto {off : Int} {tgt : Nat} (hd : decode cc pc = .ok (.goto off, 3)) (ht : (pc : Int) + off = (tgt : Int)) (k : JW l cl Ns Ts own cc nL ret R tgt ls st ws Q) : JW l cl Ns Ts own cc nL ret R pc ls st ws Q := by
  intro p e s m args below meth c H locs D cA ad A lsA X
  obtain ⟨hx, hb, hr, hml, hlk, hown, hts, hN, hK, hP, hD, hS, hl⟩ := id X
  exact lv_goto hx hb hd ht (k p e s m args below meth c H locs D cA ad A lsA X)
theorem J_tableOut {dflt lo hi : Int} {offs : Array Int} {len : Nat} {x : Int32} {tgt : Nat} (hd : decode cc pc = .ok (.tableswitch dflt lo hi offs, len)) (h : x.toInt < lo ∨ hi < x.toInt) (ht : (pc : Int) + dflt = (tgt : Int)) (k : JW l cl Ns Ts own cc nL ret R tgt ls st ws Q) : JW l cl Ns Ts own cc nL ret R pc ls (.int x :: st) ws Q := by
  intro p e s m args below meth c H locs D cA ad A lsA X
  obtain ⟨hx, hb, hr, hml, hlk, hown, hts, hN, hK, hP, hD, hS, hl⟩ := id X
  exact lv_tableOut hx hb hd h ht (k p e s m args below meth c H locs D cA ad A lsA X)
theorem J_tableIn {dflt lo hi : Int} {offs : Array Int} {len : Nat} {x : Int32} {off : Int} {tgt : Nat} (hd : decode cc pc = .ok (.tableswitch dflt lo hi offs, len)) (h1 : ¬ x.toInt < lo) (h2 : ¬ hi < x.toInt) (ho : offs[(x.toInt - lo).toNat]? = some off) (ht : (pc : Int) + off = (tgt : Int)) (k : JW l cl Ns Ts own cc nL ret R tgt ls st ws Q) : JW l cl Ns Ts own cc nL ret R pc ls (.int x :: st) ws Q := by
  intro p e s m args below meth c H locs D cA ad A lsA X
  obtain ⟨hx, hb, hr, hml, hlk, hown, hts, hN, hK, hP, hD, hS, hl⟩ := id X
  exact lv_tableIn hx hb hd h1 h2 ho ht (k p e s m args below meth c H locs D cA ad A lsA X)
theorem J_iret {v : Int32} {ty : FieldType} (hd : decode cc pc = .ok (.ireturn, 1)) (hr0 : ret = some ty) (hn : narrow ty (.int v) = .int v) (hq : Q (some (.int v)) ws) : JW l cl Ns Ts own cc nL ret R pc ls [.int v] ws Q := by
  intro p e s m args below meth c H locs D cA ad A lsA X
  obtain ⟨hx, hb, hr, hml, hlk, hown, hts, hN, hK, hP, hD, hS, hl⟩ := id X
  exact W.zret hx hb (hr.trans hr0) hn (fun t ht hW => ⟨⟨some (.int v), ws, rfl, hq, rfl, by rw [ht]; exact hP, va_K.moved hW.alike hK, hD⟩, hS.F ht⟩) hS.2.2 hd hlk
theorem J_vret (hd : decode cc pc = .ok (.return_, 1)) (hr0 : ret = none) (hq : Q none ws) : JW l cl Ns Ts own cc nL ret R pc ls [] ws Q := by
  intro p e s m args below meth c H locs D cA ad A lsA X
  obtain ⟨hx, hb, hr, hml, hlk, hown, hts, hN, hK, hP, hD, hS, hl⟩ := id X
  exact W.vret hx hb (hr.trans hr0) (fun t ht hW => ⟨⟨none, ws, rfl, hq, rfl, by rw [ht]; exact hP, va_K.moved hW.alike hK, hD⟩, hS.F ht⟩) hS.2.2 hd hlk
theorem J_get {index k0 ci j N : Nat} {fs : List Value} {v : Value} {C : String} {T : u_T} (hd : decode cc pc = .ok (.getfield index, 3)) (he : ws[k0]? = some (.inr (ci, fs))) (hc : cl[ci]? = some (C, T, N)) (hin : ∀ w ∈ u_ws C T N, w ∈ Ts) (hj : j < N) (hlk0 : Cond.fieldLink own index (T j).1 (T j).2.1 (T j).2.2.1 ∈ Ts) (hv : fs[j]? = some v) (k : JW l cl Ns Ts own cc nL ret R (pc + 3) ls (v :: st) ws Q) : JW l cl Ns Ts own cc nL ret R pc ls (.ref k0 :: st) ws Q := by
  intro p e s m args below meth c H locs D cA ad A lsA X
  obtain ⟨hx, hb, hr, hml, hlk, hown, hts, hN, hK, hP, hD, hS, hl⟩ := id X
  exact va_get hx hb hts hin hown hK hP _ (jw_at he) hc j hj (hts _ hlk0) (fun _ h => h) (v := jv ad v) (by simp [hv]) hd (k p e s m args below meth c H locs D cA ad A lsA X)
theorem J_getN {index k0 ci j N : Nat} {fs : List Value} {v : Value} {C host : String} {T : u_T} (hd : decode cc pc = .ok (.getfield index, 3)) (he : ws[k0]? = some (.inr (ci, fs))) (hc : cl[ci]? = some (C, T, N)) (hin : ∀ w ∈ u_ws C T N, w ∈ Ts) (hj : j < N) (hlk0 : Cond.fieldLinkNest own index (T j).1 (T j).2.1 (T j).2.2.1 host ∈ Ts) (hv : fs[j]? = some v) (k : JW l cl Ns Ts own cc nL ret R (pc + 3) ls (v :: st) ws Q) : JW l cl Ns Ts own cc nL ret R pc ls (.ref k0 :: st) ws Q := by
  intro p e s m args below meth c H locs D cA ad A lsA X
  obtain ⟨hx, hb, hr, hml, hlk, hown, hts, hN, hK, hP, hD, hS, hl⟩ := id X
  exact va_getN hx hb hts hin hown hK hP _ (jw_at he) hc j hj (hts _ hlk0) (fun _ h => h) (v := jv ad v) (by simp [hv]) hd (k p e s m args below meth c H locs D cA ad A lsA X)
theorem J_put {index k0 ci j N : Nat} {fs : List Value} {x : Int32} {C : String} {T : u_T} {ty : FieldType} (hd : decode cc pc = .ok (.putfield index, 3)) (he : ws[k0]? = some (.inr (ci, fs))) (hc : cl[ci]? = some (C, T, N)) (hin : ∀ w ∈ u_ws C T N, w ∈ Ts) (ty0 : Nat → FieldType) (hty : ∀ i, i < N → parseFieldDescriptor (T i).2.2.1 = some (ty0 i)) (hnm : ∀ a, a < N → ∀ b, b < N → a ≠ b → (T a).2.1 ≠ (T b).2.1) (hj : j < N) (hlk0 : Cond.fieldLink own index (T j).1 (T j).2.1 (T j).2.2.1 ∈ Ts) (hfin : (T j).2.2.2 = false) (hpd : parseFieldDescriptor (T j).2.2.1 = some ty) (hn : narrow ty (.int x) = .int x) (hfit : fits ty (.int x) = true) (hl0 : j < fs.length)
    (k : JW l cl Ns Ts own cc nL ret R (pc + 3) ls st (ws.set k0 (.inr (ci, fs.set j (.int x)))) Q) : JW l cl Ns Ts own cc nL ret R pc ls (.int x :: .ref k0 :: st) ws Q := by
  intro p e s m args below meth c H locs D cA ad A lsA X
  obtain ⟨hx, hb, hr, hml, hlk, hown, hts, hN, hK, hP, hD, hS, hl⟩ := id X
  have e1 : je cA ad (.inr (ci, fs.set j (.int x))) = .inr (ci, (fs.map (jv ad)).set j (.int x)) := by
    show Sum.inr (ci, (fs.set j (.int x)).map (jv ad)) = _
    rw [List.map_set]; rfl
  refine va_put hx hb hts hin ty0 hty hnm hown hK hP hD hS k0 (jw_at he) hc j hj (hts _ hlk0) (fun _ h => h) hfin (v := .int x) hpd hn hfit (by simp [hl0]) hd (fun H1 locs1 hP1 hD1 hS1 => ?_)
  rw [← e1, jw_set] at hP1 hD1
  have := k p e s m args below meth c H1 locs1 D cA ad A lsA ⟨hx, hb, hr, hml, hlk, hown, hts, hN, hK, hP1, hD1, hS1, hl⟩
  rw [List.length_set] at this
  exact this
theorem J_putN {index k0 ci j N : Nat} {fs : List Value} {x : Int32} {C host : String} {T : u_T} {ty : FieldType} (hd : decode cc pc = .ok (.putfield index, 3)) (he : ws[k0]? = some (.inr (ci, fs))) (hc : cl[ci]? = some (C, T, N)) (hin : ∀ w ∈ u_ws C T N, w ∈ Ts) (ty0 : Nat → FieldType) (hty : ∀ i, i < N → parseFieldDescriptor (T i).2.2.1 = some (ty0 i)) (hnm : ∀ a, a < N → ∀ b, b < N → a ≠ b → (T a).2.1 ≠ (T b).2.1) (hj : j < N) (hlk0 : Cond.fieldLinkNest own index (T j).1 (T j).2.1 (T j).2.2.1 host ∈ Ts) (hfin : (T j).2.2.2 = false) (hpd : parseFieldDescriptor (T j).2.2.1 = some ty) (hn : narrow ty (.int x) = .int x) (hfit : fits ty (.int x) = true) (hl0 : j < fs.length)
    (k : JW l cl Ns Ts own cc nL ret R (pc + 3) ls st (ws.set k0 (.inr (ci, fs.set j (.int x)))) Q) : JW l cl Ns Ts own cc nL ret R pc ls (.int x :: .ref k0 :: st) ws Q := by
  intro p e s m args below meth c H locs D cA ad A lsA X
  obtain ⟨hx, hb, hr, hml, hlk, hown, hts, hN, hK, hP, hD, hS, hl⟩ := id X
  have e1 : je cA ad (.inr (ci, fs.set j (.int x))) = .inr (ci, (fs.map (jv ad)).set j (.int x)) := by
    show Sum.inr (ci, (fs.set j (.int x)).map (jv ad)) = _
    rw [List.map_set]; rfl
  refine va_putN hx hb hts hin ty0 hty hnm hown hK hP hD hS k0 (jw_at he) hc j hj (hts _ hlk0) (fun _ h => h) hfin (v := .int x) hpd hn hfit (by simp [hl0]) hd (fun H1 locs1 hP1 hD1 hS1 => ?_)
  rw [← e1, jw_set] at hP1 hD1
  have := k p e s m args below meth c H1 locs1 D cA ad A lsA ⟨hx, hb, hr, hml, hlk, hown, hts, hN, hK, hP1, hD1, hS1, hl⟩
  rw [List.length_set] at this
  exact this
theorem J_iald {k0 n : Nat} {f : Nat → Int32} {i : Int32} (hd : decode cc pc = .ok (.iaload, 1)) (he : ws[k0]? = some (.inl (0, n, f))) (hi : vp_in i n) (k : JW l cl Ns Ts own cc nL ret R (pc + 1) ls (.int (f i.toNatClampNeg) :: st) ws Q) : JW l cl Ns Ts own cc nL ret R pc ls (.int i :: .ref k0 :: st) ws Q := by
  intro p e s m args below meth c H locs D cA ad A lsA X
  obtain ⟨hx, hb, hr, hml, hlk, hown, hts, hN, hK, hP, hD, hS, hl⟩ := id X
  exact va_iald hx hb hK hP _ 0 (jw_at he) rfl hi hd (k p e s m args below meth c H locs D cA ad A lsA X)
theorem J_zald {k0 n : Nat} {f : Nat → Int32} {i : Int32} (hd : decode cc pc = .ok (.baload, 1)) (he : ws[k0]? = some (.inl (1, n, f))) (hi : vp_in i n) (k : JW l cl Ns Ts own cc nL ret R (pc + 1) ls (.int (f i.toNatClampNeg) :: st) ws Q) : JW l cl Ns Ts own cc nL ret R pc ls (.int i :: .ref k0 :: st) ws Q := by
  intro p e s m args below meth c H locs D cA ad A lsA X
  obtain ⟨hx, hb, hr, hml, hlk, hown, hts, hN, hK, hP, hD, hS, hl⟩ := id X
  exact va_zald hx hb hK hP _ 1 (jw_at he) rfl hi hd (k p e s m args below meth c H locs D cA ad A lsA X)
theorem J_iast {k0 n : Nat} {f : Nat → Int32} {i x : Int32} (hd : decode cc pc = .ok (.iastore, 1)) (he : ws[k0]? = some (.inl (0, n, f))) (hi : vp_in i n) (k : JW l cl Ns Ts own cc nL ret R (pc + 1) ls st (ws.set k0 (.inl (0, n, upd f i.toNatClampNeg x))) Q) : JW l cl Ns Ts own cc nL ret R pc ls (.int x :: .int i :: .ref k0 :: st) ws Q := by
  intro p e s m args below meth c H locs D cA ad A lsA X
  obtain ⟨hx, hb, hr, hml, hlk, hown, hts, hN, hK, hP, hD, hS, hl⟩ := id X
  refine va_iast hx hb hK hP hD hS k0 0 (jw_at he) rfl hi hd (fun H1 locs1 hP1 hD1 hS1 => ?_)
  have e1 : je cA ad (.inl (0, n, upd f i.toNatClampNeg x)) = .inl (cA 0, n, .inl (upd f i.toNatClampNeg x)) := rfl
  rw [← e1, jw_set] at hP1 hD1
  have := k p e s m args below meth c H1 locs1 D cA ad A lsA ⟨hx, hb, hr, hml, hlk, hown, hts, hN, hK, hP1, hD1, hS1, hl⟩
  rw [List.length_set] at this
  exact this
theorem J_zast {k0 n : Nat} {f : Nat → Int32} {i x : Int32} (hd : decode cc pc = .ok (.bastore, 1)) (he : ws[k0]? = some (.inl (1, n, f))) (hi : vp_in i n) (k : JW l cl Ns Ts own cc nL ret R (pc + 1) ls st (ws.set k0 (.inl (1, n, upd f i.toNatClampNeg (vp_nar .boolean x)))) Q) : JW l cl Ns Ts own cc nL ret R pc ls (.int x :: .int i :: .ref k0 :: st) ws Q := by
  intro p e s m args below meth c H locs D cA ad A lsA X
  obtain ⟨hx, hb, hr, hml, hlk, hown, hts, hN, hK, hP, hD, hS, hl⟩ := id X
  refine va_zast hx hb hK hP hD hS k0 1 (jw_at he) rfl hi hd (fun H1 locs1 hP1 hD1 hS1 => ?_)
  have e1 : je cA ad (.inl (1, n, upd f i.toNatClampNeg (vp_nar .boolean x))) = .inl (cA 1, n, .inl (upd f i.toNatClampNeg (vp_nar .boolean x))) := rfl
  rw [← e1, jw_set] at hP1 hD1
  have := k p e s m args below meth c H1 locs1 D cA ad A lsA ⟨hx, hb, hr, hml, hlk, hown, hts, hN, hK, hP1, hD1, hS1, hl⟩
  rw [List.length_set] at this
  exact this
theorem J_alen {k0 t n : Nat} {f : Nat → Int32} {v : Int32} (ht : t < 2) (hd : decode cc pc = .ok (.arraylength, 1)) (he : ws[k0]? = some (.inl (t, n, f))) (hv : Int32.ofNat n = v) (k : JW l cl Ns Ts own cc nL ret R (pc + 1) ls (.int v :: st) ws Q) : JW l cl Ns Ts own cc nL ret R pc ls (.ref k0 :: st) ws Q := by
  intro p e s m args below meth c H locs D cA ad A lsA X
  obtain ⟨hx, hb, hr, hml, hlk, hown, hts, hN, hK, hP, hD, hS, hl⟩ := id X
  have hty : ∃ ty, (jT cA)[t]? = some (cA t, ty) := by
    match t, ht with
    | 0, _ => exact ⟨_, rfl⟩
    | 1, _ => exact ⟨_, rfl⟩
  obtain ⟨ty, hty⟩ := hty
  exact va_alen (x := (n, .inl f)) hx hb hK hP _ t (jw_at he) hty hv hd (k p e s m args below meth c H locs D cA ad A lsA X)
theorem J_mmax {index : Nat} {x y : Int32} (hd : decode cc pc = .ok (.invokestatic index, 3)) (h1 : Cond.methodLink own index Lib.Math.max.name ∈ Ts) (h2 : Cond.static Lib.Math.max.name ∈ Ts) (h3 : Cond.initialized "java/lang/Math" ∈ Ts) (h4 : Cond.code Lib.Math.max.name Lib.Math.max.code 2 (some .int) ∈ Ts) (hf : 1 ≤ R.frames) (hlo : (st.map fun v => v.category).sum + 13 ≤ R.locals) (k : JW l cl Ns Ts own cc nL ret R (pc + 3) ls (.int (if x < y then y else x) :: st) ws Q) : JW l cl Ns Ts own cc nL ret R pc ls (.int y :: .int x :: st) ws Q := by
  intro p e s m args below meth c H locs D cA ad A lsA X
  obtain ⟨hx, hb, hr, hml, hlk, hown, hts, hN, hK, hP, hD, hS, hl⟩ := id X
  have e1 : ((st.map (jv ad)).map fun v => v.category).sum = (st.map fun v => v.category).sum := by
    rw [List.map_map]; congr 1; apply List.map_congr_left; intro v _; exact jv_cat ad v
  exact va_mmax hx hb (by rw [hml]; exact hl.1.symm) hown (hts _ h1) (hts _ h2) (hts _ h3) (hts _ h4) hf (by rw [e1]; exact hlo) (Nat.zero_le _) (Nat.zero_le _) hd (k p e s m args below meth c H locs D cA ad A lsA X)
theorem J_mmin {index : Nat} {x y : Int32} (hd : decode cc pc = .ok (.invokestatic index, 3)) (h1 : Cond.methodLink own index Lib.Math.min.name ∈ Ts) (h2 : Cond.static Lib.Math.min.name ∈ Ts) (h3 : Cond.initialized "java/lang/Math" ∈ Ts) (h4 : Cond.code Lib.Math.min.name Lib.Math.min.code 2 (some .int) ∈ Ts) (hf : 1 ≤ R.frames) (hlo : (st.map fun v => v.category).sum + 13 ≤ R.locals) (k : JW l cl Ns Ts own cc nL ret R (pc + 3) ls (.int (if y < x then y else x) :: st) ws Q) : JW l cl Ns Ts own cc nL ret R pc ls (.int y :: .int x :: st) ws Q := by
  intro p e s m args below meth c H locs D cA ad A lsA X
  obtain ⟨hx, hb, hr, hml, hlk, hown, hts, hN, hK, hP, hD, hS, hl⟩ := id X
  have e1 : ((st.map (jv ad)).map fun v => v.category).sum = (st.map fun v => v.category).sum := by
    rw [List.map_map]; congr 1; apply List.map_congr_left; intro v _; exact jv_cat ad v
  exact va_mmin hx hb (by rw [hml]; exact hl.1.symm) hown (hts _ h1) (hts _ h2) (hts _ h3) (hts _ h4) hf (by rw [e1]; exact hlo) (Nat.zero_le _) (Nat.zero_le _) hd (k p e s m args below meth c H locs D cA ad A lsA X)
theorem j_good {y : MethodName} {bytes : ByteArray} {maxLy : Nat} {rety : Option FieldType} {Ts : List Cond} (hcode : Cond.code y bytes maxLy rety ∈ Ts) (hgood : ∀ w ∈ Ts, (w.onTables && w.keeps) = true ∨ ∃ ty, w = .arrayClass ty) : GoodIn Ts (.code y bytes maxLy rety :: Ts) := by
  intro w hw
  rcases List.mem_cons.mp hw with rfl | hw
  · exact ⟨hcode, hgood _ hcode⟩
  · exact ⟨hw, hgood _ hw⟩
/-- what comes back from a call of ours -/
theorem j_call {p : Program} {e : Env} {s : State} {m : MethodId} {args : Array Value} {below : List Frame} {meth : Method} {c : Code} {H : Heap} {locs : List Loc} {D : va_G} {cA : Nat → ClassId} {ad : Nat → Nat} {A : Nat → Prop} {lsA : Array Slot} {Qy : Option Value → jW → Prop} {st0 rest : List Value} {a : Array Value}
    (X : jC cl Ns Ts own cc nL ret ls ws p s m args meth c H locs D cA ad A lsA)
    (hrun : va_Run p l e R s m args below meth c H locs 0 0 0 0 (F0 m pc lsA st0) (rest.map (jv ad)) (jQ cl cA D ad (jA ad ws.length) ws.length Qy a) (jA ad ws.length))
    (k : ∀ (r : Option Value) (w : jW), Qy r w → w.length = ws.length → JW l cl Ns Ts own cc nL ret R (pc + 3) ls (r.toList ++ rest) w Q) :
    W p l e R s m args below meth c H locs 0 0 (MQ below (jQ cl cA D ad A ws.length Q) args s 0 0 A) (F0 m pc lsA st0) := by
  obtain ⟨hx, hb, hr, hml, hlk, hown, hts, hN, hK, hP, hD, hS, hl⟩ := id X
  have hAA : ∀ q, jA ad ws.length q → A q := by
    rintro q ⟨j, hj, rfl⟩
    have hj2 : ws[j]? = some ws[j] := List.getElem?_eq_getElem hj
    exact hD.2 j _ (jw_at hj2)
  intro T hT Y
  obtain ⟨v, st₀, t, T', L, h0, X', hL, e1, e2, ⟨⟨r, w, hv, hq, hwl, hP1, hK1, hD1⟩, hz, hk⟩, stp⟩ := hrun T hT Y
  rw [h0] at hz hk
  have hv' : v = r.map (jv ad) := by simpa using hv
  subst hv'
  have hS' : va_S A s.heap T'.heap (locs ++ L) := ⟨Nat.le_trans hS.1 (by rw [e1]; exact hz), fun q h1 h2 => by rw [e1, hk q (Nat.lt_of_lt_of_le h1 hS.1) (fun z => h2 (hAA q z))]; exact hS.2.1 q h1 h2, fun q hq => by
      rcases List.mem_append.mp hq with h | h
      · exact hS.2.2 q h
      · exact hAA _ (hL q h)⟩
  have X2 : jC cl Ns Ts own cc nL ret ls w p s m args meth c T'.heap (locs ++ L) D cA ad A lsA := ⟨hx, hb, hr, hml, hlk, hown, hts, hN, hK, by rw [e1]; exact hP1, hD1.weaken (fun _ _ _ h => hAA _ h), hS', hl⟩
  have K := k r w hq hwl p e s m args below meth c T'.heap (locs ++ L) D cA ad A lsA X2
  rw [hwl] at K
  have e3 : (r.toList ++ rest).map (jv ad) = (r.map (jv ad)).toList ++ rest.map (jv ad) := by cases r <;> simp
  rw [e3] at K
  obtain ⟨t2, a1, b1⟩ := K T' rfl X'
  exact ⟨t2, stp t2 a1, b1⟩
theorem j_sum (ad : Nat → Nat) (st : List Value) : ((st.map (jv ad)).map fun v => v.category).sum = (st.map fun v => v.category).sum := by
  rw [List.map_map]; congr 1; apply List.map_congr_left; intro v _; exact jv_cat ad v
theorem j_blind {D : va_G} {cA : Nat → ClassId} {ad : Nat → Nat} {av : List Value} : FrameBlind (va_Pc (av.map (jv ad)) (fun U => jN Ns U ∧ va_P D cl (jw cA ad ws) U.heap ∧ va_K D cl (jT cA) U ∧ va_D (jA ad ws.length) (jw cA ad ws))) := by
  intro a U g mk q
  obtain ⟨q0, qN, qP, qK, qD⟩ := q
  exact ⟨q0, fun w hw => va_Nw.same (u := U) (U := U.calling g mk a) rfl rfl (qN w hw), qP, va_K.moved (u := U) (U := U.calling g mk a) (Vm.Alike.refl U.vm) qK, qD⟩
theorem j_own {p : Program} {s : State} {m : MethodId} {args : Array Value} {meth : Method} {c : Code} {H : Heap} {locs : List Loc} {D : va_G} {cA : Nat → ClassId} {ad : Nat → Nat} {A : Nat → Prop} {lsA : Array Slot} (X : jC cl Ns Ts own cc nL ret ls ws p s m args meth c H locs D cA ad A lsA) : va_D (jA ad ws.length) (jw cA ad ws) := by
  obtain ⟨hx, hb, hr, hml, hlk, hown, hts, hN, hK, hP, hD, hS, hl⟩ := X
  refine ⟨hD.1, fun k q hk => ?_⟩
  have hk2 : k < ws.length := by
    have := (List.getElem?_eq_some_iff.mp hk).1
    rwa [jw_len] at this
  have := jw_at (cA := cA) (ad := ad) (List.getElem?_eq_getElem hk2)
  rw [this] at hk
  cases hk
  exact ⟨k, hk2, rfl⟩
theorem J_callS {index n maxLy : Nat} {y : MethodName} {bytes : ByteArray} {rety : Option FieldType} {Ry : Room} {As rest : List Value} {Qy : Option Value → jW → Prop} (hd : decode cc pc = .ok (.invokestatic index, 3)) (hM : JMet l cl Ns (.code y bytes maxLy rety :: Ts) y Ry As ws Qy) (hcode : Cond.code y bytes maxLy rety ∈ Ts) (hgood : ∀ w ∈ Ts, (w.onTables && w.keeps) = true ∨ ∃ ty, w = .arrayClass ty) (hrc : Ry.cells = 0) (hrs : Ry.slots = 0) (hini : Cond.initialized y.cls ∈ Ts) (hli : Cond.methodLink own index y ∈ Ts) (hdy : y.cls ≠ "java/lang/invoke/MethodHandle" ∧ y.cls ≠ "java/lang/invoke/VarHandle" ∧ (parseMethodDescriptor y.desc).map (fun d => d.parameters.length) = some n) (hR : Ry.frames + 1 ≤ R.frames ∧ 8 + (maxLy + 11) + Ry.locals ≤ R.locals) (hn : As.length = n) (hsum : (rest.map fun v => v.category).sum ≤ 8) (hst : Cond.static y ∈ Ts)
    (k : ∀ (r : Option Value) (w : jW), Qy r w → w.length = ws.length → JW l cl Ns Ts own cc nL ret R (pc + 3) ls (r.toList ++ rest) w Q) : JW l cl Ns Ts own cc nL ret R pc ls (As.reverse ++ rest) ws Q := by
  intro p e s m args below meth c H locs D cA ad A lsA X
  obtain ⟨hx, hb, hr, hml, hlk, hown, hts, hN, hK, hP, hD, hS, hl⟩ := id X
  have hDc := j_own X
  have hG := j_good hcode hgood
  refine j_call X (rest := rest) (va_runS (As := As.map (jv ad)) (rest := rest.map (jv ad)) (n := n) ⟨hx, hb, hml, hown, hts⟩ (hM D cA ad) ⟨callB_of n hts hG rfl hrc hrs (hts _ hini) (hts _ hli) hdy hR, hts _ hst⟩ ⟨j_blind, fun U hU hW => ⟨rfl, jN_warm hW hN, by rw [hU]; exact hP, va_K.moved hW.alike hK, hDc⟩⟩ rfl (by rw [List.length_map]; exact hn) hl.1 (by simp) (lv_room (by rw [j_sum]; exact hsum)) hd ⟨Nat.zero_le _, Nat.zero_le _⟩) k
theorem J_callSN {index n maxLy : Nat} {y : MethodName} {bytes : ByteArray} {rety : Option FieldType} {Ry : Room} {As rest : List Value} {Qy : Option Value → jW → Prop} {host : String} (hd : decode cc pc = .ok (.invokestatic index, 3)) (hM : JMet l cl Ns (.code y bytes maxLy rety :: Ts) y Ry As ws Qy) (hcode : Cond.code y bytes maxLy rety ∈ Ts) (hgood : ∀ w ∈ Ts, (w.onTables && w.keeps) = true ∨ ∃ ty, w = .arrayClass ty) (hrc : Ry.cells = 0) (hrs : Ry.slots = 0) (hini : Cond.initialized y.cls ∈ Ts) (hli : ((own, index, y, host) : String × Nat × MethodName × String) ∈ Ns) (hdy : y.cls ≠ "java/lang/invoke/MethodHandle" ∧ y.cls ≠ "java/lang/invoke/VarHandle" ∧ (parseMethodDescriptor y.desc).map (fun d => d.parameters.length) = some n) (hR : Ry.frames + 1 ≤ R.frames ∧ 8 + (maxLy + 11) + Ry.locals ≤ R.locals) (hn : As.length = n) (hsum : (rest.map fun v => v.category).sum ≤ 8) (hst : Cond.static y ∈ Ts)
    (k : ∀ (r : Option Value) (w : jW), Qy r w → w.length = ws.length → JW l cl Ns Ts own cc nL ret R (pc + 3) ls (r.toList ++ rest) w Q) : JW l cl Ns Ts own cc nL ret R pc ls (As.reverse ++ rest) ws Q := by
  intro p e s m args below meth c H locs D cA ad A lsA X
  obtain ⟨hx, hb, hr, hml, hlk, hown, hts, hN, hK, hP, hD, hS, hl⟩ := id X
  have hDc := j_own X
  have hG := j_good hcode hgood
  refine j_call X (rest := rest) (va_runSN (As := As.map (jv ad)) (rest := rest.map (jv ad)) (n := n) ⟨hx, hb, hml, hown, hts⟩ (hM D cA ad) ⟨va_cnB n hts hG rfl hrc hrs (hN _ hli) (hts _ hini) hdy hR, hts _ hst, trivial⟩ ⟨j_blind, fun U hU hW => ⟨rfl, jN_warm hW hN, by rw [hU]; exact hP, va_K.moved hW.alike hK, hDc⟩⟩ rfl (by rw [List.length_map]; exact hn) hl.1 (by simp) (lv_room (by rw [j_sum]; exact hsum)) hd ⟨Nat.zero_le _, Nat.zero_le _⟩) k
theorem J_callV {index n maxLy : Nat} {y : MethodName} {bytes : ByteArray} {rety : Option FieldType} {Ry : Room} {As rest : List Value} {Qy : Option Value → jW → Prop} {b ci N : Nat} {fs : List Value} {T : u_T} (hd : decode cc pc = .ok (.invokevirtual index, 3)) (hM : JMet l cl Ns (.code y bytes maxLy rety :: Ts) y Ry (.ref b :: As) ws Qy) (he : ws[b]? = some (.inr (ci, fs))) (hc : cl[ci]? = some (y.cls, T, N)) (hcode : Cond.code y bytes maxLy rety ∈ Ts) (hgood : ∀ w ∈ Ts, (w.onTables && w.keeps) = true ∨ ∃ ty, w = .arrayClass ty) (hrc : Ry.cells = 0) (hrs : Ry.slots = 0) (hini : Cond.initialized y.cls ∈ Ts) (hli : Cond.methodLink own index y ∈ Ts) (hdy : y.cls ≠ "java/lang/invoke/MethodHandle" ∧ y.cls ≠ "java/lang/invoke/VarHandle" ∧ (parseMethodDescriptor y.desc).map (fun d => d.parameters.length) = some n) (hR : Ry.frames + 1 ≤ R.frames ∧ 8 + (maxLy + 11) + Ry.locals ≤ R.locals) (hn : As.length = n) (hsum : (rest.map fun v => v.category).sum ≤ 8) (hst : Cond.instanceMethod y ∈ Ts) (hsel : Cond.selects y.cls y y ∈ Ts)
    (k : ∀ (r : Option Value) (w : jW), Qy r w → w.length = ws.length → JW l cl Ns Ts own cc nL ret R (pc + 3) ls (r.toList ++ rest) w Q) : JW l cl Ns Ts own cc nL ret R pc ls (As.reverse ++ .ref b :: rest) ws Q := by
  intro p e s m args below meth c H locs D cA ad A lsA X
  obtain ⟨hx, hb, hr, hml, hlk, hown, hts, hN, hK, hP, hD, hS, hl⟩ := id X
  have hDc := j_own X
  have hG := j_good hcode hgood
  refine j_call X (rest := rest) (va_runV (C := y.cls) (b := ad b) (As := As.map (jv ad)) (rest := rest.map (jv ad)) (n := n) ⟨hx, hb, hml, hown, hts⟩ (hM D cA ad) ⟨callB_of n hts hG rfl hrc hrs (hts _ hini) (hts _ hli) hdy hR, hts _ hst, hts _ hsel⟩ ⟨j_blind, va_recv hK hP hc (jw_at he), fun U hU hW => ⟨rfl, jN_warm hW hN, by rw [hU]; exact hP, va_K.moved hW.alike hK, hDc⟩⟩ rfl (by rw [List.length_map]; exact hn) hl.1 (by simp [jv]) (lv_room (by rw [j_sum]; exact hsum)) hd ⟨Nat.zero_le _, Nat.zero_le _⟩) k
theorem J_callVN {index n maxLy : Nat} {y : MethodName} {bytes : ByteArray} {rety : Option FieldType} {Ry : Room} {As rest : List Value} {Qy : Option Value → jW → Prop} {host : String} {b ci N : Nat} {fs : List Value} {T : u_T} (hd : decode cc pc = .ok (.invokevirtual index, 3)) (hM : JMet l cl Ns (.code y bytes maxLy rety :: Ts) y Ry (.ref b :: As) ws Qy) (he : ws[b]? = some (.inr (ci, fs))) (hc : cl[ci]? = some (y.cls, T, N)) (hcode : Cond.code y bytes maxLy rety ∈ Ts) (hgood : ∀ w ∈ Ts, (w.onTables && w.keeps) = true ∨ ∃ ty, w = .arrayClass ty) (hrc : Ry.cells = 0) (hrs : Ry.slots = 0) (hini : Cond.initialized y.cls ∈ Ts) (hli : ((own, index, y, host) : String × Nat × MethodName × String) ∈ Ns) (hdy : y.cls ≠ "java/lang/invoke/MethodHandle" ∧ y.cls ≠ "java/lang/invoke/VarHandle" ∧ (parseMethodDescriptor y.desc).map (fun d => d.parameters.length) = some n) (hR : Ry.frames + 1 ≤ R.frames ∧ 8 + (maxLy + 11) + Ry.locals ≤ R.locals) (hn : As.length = n) (hsum : (rest.map fun v => v.category).sum ≤ 8) (hst : Cond.instanceMethod y ∈ Ts) (hsel : Cond.selects y.cls y y ∈ Ts)
    (k : ∀ (r : Option Value) (w : jW), Qy r w → w.length = ws.length → JW l cl Ns Ts own cc nL ret R (pc + 3) ls (r.toList ++ rest) w Q) : JW l cl Ns Ts own cc nL ret R pc ls (As.reverse ++ .ref b :: rest) ws Q := by
  intro p e s m args below meth c H locs D cA ad A lsA X
  obtain ⟨hx, hb, hr, hml, hlk, hown, hts, hN, hK, hP, hD, hS, hl⟩ := id X
  have hDc := j_own X
  have hG := j_good hcode hgood
  refine j_call X (rest := rest) (va_runVN (C := y.cls) (b := ad b) (As := As.map (jv ad)) (rest := rest.map (jv ad)) (n := n) ⟨hx, hb, hml, hown, hts⟩ (hM D cA ad) ⟨va_cnB n hts hG rfl hrc hrs (hN _ hli) (hts _ hini) hdy hR, hts _ hst, hts _ hsel⟩ ⟨j_blind, va_recv hK hP hc (jw_at he), fun U hU hW => ⟨rfl, jN_warm hW hN, by rw [hU]; exact hP, va_K.moved hW.alike hK, hDc⟩⟩ rfl (by rw [List.length_map]; exact hn) hl.1 (by simp [jv]) (lv_room (by rw [j_sum]; exact hsum)) hd ⟨Nat.zero_le _, Nat.zero_le _⟩) k
theorem J_cSi0 {index maxLy : Nat} {y : MethodName} {bytes : ByteArray} {rety : Option FieldType} {Ry : Room} {r : Int32} {w1 : jW} (hd : decode cc pc = .ok (.invokestatic index, 3)) (hM : JMet l cl Ns (.code y bytes maxLy rety :: Ts) y Ry [] ws (fun v w => v = some (.int r) ∧ w = w1)) (hcode : Cond.code y bytes maxLy rety ∈ Ts) (hgood : ∀ w ∈ Ts, (w.onTables && w.keeps) = true ∨ ∃ ty, w = .arrayClass ty) (hrc : Ry.cells = 0) (hrs : Ry.slots = 0) (hini : Cond.initialized y.cls ∈ Ts) (hli : Cond.methodLink own index y ∈ Ts) (hdy : y.cls ≠ "java/lang/invoke/MethodHandle" ∧ y.cls ≠ "java/lang/invoke/VarHandle" ∧ (parseMethodDescriptor y.desc).map (fun d => d.parameters.length) = some 0) (hR : Ry.frames + 1 ≤ R.frames ∧ 8 + (maxLy + 11) + Ry.locals ≤ R.locals) (hsum : (st.map fun v => v.category).sum ≤ 8) (hst : Cond.static y ∈ Ts)
    (k : JW l cl Ns Ts own cc nL ret R (pc + 3) ls (.int r :: st) w1 Q) : JW l cl Ns Ts own cc nL ret R pc ls (st) ws Q :=
  J_callS (As := []) (rest := st) hd hM hcode hgood hrc hrs hini hli hdy hR rfl hsum hst (fun r0 w hq _ => by obtain ⟨rfl, rfl⟩ := hq; exact k)
theorem J_cSv0 {index maxLy : Nat} {y : MethodName} {bytes : ByteArray} {rety : Option FieldType} {Ry : Room} {w1 : jW} (hd : decode cc pc = .ok (.invokestatic index, 3)) (hM : JMet l cl Ns (.code y bytes maxLy rety :: Ts) y Ry [] ws (fun v w => v = none ∧ w = w1)) (hcode : Cond.code y bytes maxLy rety ∈ Ts) (hgood : ∀ w ∈ Ts, (w.onTables && w.keeps) = true ∨ ∃ ty, w = .arrayClass ty) (hrc : Ry.cells = 0) (hrs : Ry.slots = 0) (hini : Cond.initialized y.cls ∈ Ts) (hli : Cond.methodLink own index y ∈ Ts) (hdy : y.cls ≠ "java/lang/invoke/MethodHandle" ∧ y.cls ≠ "java/lang/invoke/VarHandle" ∧ (parseMethodDescriptor y.desc).map (fun d => d.parameters.length) = some 0) (hR : Ry.frames + 1 ≤ R.frames ∧ 8 + (maxLy + 11) + Ry.locals ≤ R.locals) (hsum : (st.map fun v => v.category).sum ≤ 8) (hst : Cond.static y ∈ Ts)
    (k : JW l cl Ns Ts own cc nL ret R (pc + 3) ls st w1 Q) : JW l cl Ns Ts own cc nL ret R pc ls (st) ws Q :=
  J_callS (As := []) (rest := st) hd hM hcode hgood hrc hrs hini hli hdy hR rfl hsum hst (fun r0 w hq _ => by obtain ⟨rfl, rfl⟩ := hq; exact k)
theorem J_cSi1 {index maxLy : Nat} {y : MethodName} {bytes : ByteArray} {rety : Option FieldType} {Ry : Room} {r : Int32} {v1 : Value} {w1 : jW} (hd : decode cc pc = .ok (.invokestatic index, 3)) (hM : JMet l cl Ns (.code y bytes maxLy rety :: Ts) y Ry [v1] ws (fun v w => v = some (.int r) ∧ w = w1)) (hcode : Cond.code y bytes maxLy rety ∈ Ts) (hgood : ∀ w ∈ Ts, (w.onTables && w.keeps) = true ∨ ∃ ty, w = .arrayClass ty) (hrc : Ry.cells = 0) (hrs : Ry.slots = 0) (hini : Cond.initialized y.cls ∈ Ts) (hli : Cond.methodLink own index y ∈ Ts) (hdy : y.cls ≠ "java/lang/invoke/MethodHandle" ∧ y.cls ≠ "java/lang/invoke/VarHandle" ∧ (parseMethodDescriptor y.desc).map (fun d => d.parameters.length) = some 1) (hR : Ry.frames + 1 ≤ R.frames ∧ 8 + (maxLy + 11) + Ry.locals ≤ R.locals) (hsum : (st.map fun v => v.category).sum ≤ 8) (hst : Cond.static y ∈ Ts)
    (k : JW l cl Ns Ts own cc nL ret R (pc + 3) ls (.int r :: st) w1 Q) : JW l cl Ns Ts own cc nL ret R pc ls (v1 :: st) ws Q :=
  J_callS (As := [v1]) (rest := st) hd hM hcode hgood hrc hrs hini hli hdy hR rfl hsum hst (fun r0 w hq _ => by obtain ⟨rfl, rfl⟩ := hq; exact k)
theorem J_cSv1 {index maxLy : Nat} {y : MethodName} {bytes : ByteArray} {rety : Option FieldType} {Ry : Room} {v1 : Value} {w1 : jW} (hd : decode cc pc = .ok (.invokestatic index, 3)) (hM : JMet l cl Ns (.code y bytes maxLy rety :: Ts) y Ry [v1] ws (fun v w => v = none ∧ w = w1)) (hcode : Cond.code y bytes maxLy rety ∈ Ts) (hgood : ∀ w ∈ Ts, (w.onTables && w.keeps) = true ∨ ∃ ty, w = .arrayClass ty) (hrc : Ry.cells = 0) (hrs : Ry.slots = 0) (hini : Cond.initialized y.cls ∈ Ts) (hli : Cond.methodLink own index y ∈ Ts) (hdy : y.cls ≠ "java/lang/invoke/MethodHandle" ∧ y.cls ≠ "java/lang/invoke/VarHandle" ∧ (parseMethodDescriptor y.desc).map (fun d => d.parameters.length) = some 1) (hR : Ry.frames + 1 ≤ R.frames ∧ 8 + (maxLy + 11) + Ry.locals ≤ R.locals) (hsum : (st.map fun v => v.category).sum ≤ 8) (hst : Cond.static y ∈ Ts)
    (k : JW l cl Ns Ts own cc nL ret R (pc + 3) ls st w1 Q) : JW l cl Ns Ts own cc nL ret R pc ls (v1 :: st) ws Q :=
  J_callS (As := [v1]) (rest := st) hd hM hcode hgood hrc hrs hini hli hdy hR rfl hsum hst (fun r0 w hq _ => by obtain ⟨rfl, rfl⟩ := hq; exact k)
theorem J_cSi2 {index maxLy : Nat} {y : MethodName} {bytes : ByteArray} {rety : Option FieldType} {Ry : Room} {r : Int32} {v1 v2 : Value} {w1 : jW} (hd : decode cc pc = .ok (.invokestatic index, 3)) (hM : JMet l cl Ns (.code y bytes maxLy rety :: Ts) y Ry [v1, v2] ws (fun v w => v = some (.int r) ∧ w = w1)) (hcode : Cond.code y bytes maxLy rety ∈ Ts) (hgood : ∀ w ∈ Ts, (w.onTables && w.keeps) = true ∨ ∃ ty, w = .arrayClass ty) (hrc : Ry.cells = 0) (hrs : Ry.slots = 0) (hini : Cond.initialized y.cls ∈ Ts) (hli : Cond.methodLink own index y ∈ Ts) (hdy : y.cls ≠ "java/lang/invoke/MethodHandle" ∧ y.cls ≠ "java/lang/invoke/VarHandle" ∧ (parseMethodDescriptor y.desc).map (fun d => d.parameters.length) = some 2) (hR : Ry.frames + 1 ≤ R.frames ∧ 8 + (maxLy + 11) + Ry.locals ≤ R.locals) (hsum : (st.map fun v => v.category).sum ≤ 8) (hst : Cond.static y ∈ Ts)
    (k : JW l cl Ns Ts own cc nL ret R (pc + 3) ls (.int r :: st) w1 Q) : JW l cl Ns Ts own cc nL ret R pc ls (v2 :: v1 :: st) ws Q :=
  J_callS (As := [v1, v2]) (rest := st) hd hM hcode hgood hrc hrs hini hli hdy hR rfl hsum hst (fun r0 w hq _ => by obtain ⟨rfl, rfl⟩ := hq; exact k)
theorem J_cSv2 {index maxLy : Nat} {y : MethodName} {bytes : ByteArray} {rety : Option FieldType} {Ry : Room} {v1 v2 : Value} {w1 : jW} (hd : decode cc pc = .ok (.invokestatic index, 3)) (hM : JMet l cl Ns (.code y bytes maxLy rety :: Ts) y Ry [v1, v2] ws (fun v w => v = none ∧ w = w1)) (hcode : Cond.code y bytes maxLy rety ∈ Ts) (hgood : ∀ w ∈ Ts, (w.onTables && w.keeps) = true ∨ ∃ ty, w = .arrayClass ty) (hrc : Ry.cells = 0) (hrs : Ry.slots = 0) (hini : Cond.initialized y.cls ∈ Ts) (hli : Cond.methodLink own index y ∈ Ts) (hdy : y.cls ≠ "java/lang/invoke/MethodHandle" ∧ y.cls ≠ "java/lang/invoke/VarHandle" ∧ (parseMethodDescriptor y.desc).map (fun d => d.parameters.length) = some 2) (hR : Ry.frames + 1 ≤ R.frames ∧ 8 + (maxLy + 11) + Ry.locals ≤ R.locals) (hsum : (st.map fun v => v.category).sum ≤ 8) (hst : Cond.static y ∈ Ts)
    (k : JW l cl Ns Ts own cc nL ret R (pc + 3) ls st w1 Q) : JW l cl Ns Ts own cc nL ret R pc ls (v2 :: v1 :: st) ws Q :=
  J_callS (As := [v1, v2]) (rest := st) hd hM hcode hgood hrc hrs hini hli hdy hR rfl hsum hst (fun r0 w hq _ => by obtain ⟨rfl, rfl⟩ := hq; exact k)
theorem J_cSi3 {index maxLy : Nat} {y : MethodName} {bytes : ByteArray} {rety : Option FieldType} {Ry : Room} {r : Int32} {v1 v2 v3 : Value} {w1 : jW} (hd : decode cc pc = .ok (.invokestatic index, 3)) (hM : JMet l cl Ns (.code y bytes maxLy rety :: Ts) y Ry [v1, v2, v3] ws (fun v w => v = some (.int r) ∧ w = w1)) (hcode : Cond.code y bytes maxLy rety ∈ Ts) (hgood : ∀ w ∈ Ts, (w.onTables && w.keeps) = true ∨ ∃ ty, w = .arrayClass ty) (hrc : Ry.cells = 0) (hrs : Ry.slots = 0) (hini : Cond.initialized y.cls ∈ Ts) (hli : Cond.methodLink own index y ∈ Ts) (hdy : y.cls ≠ "java/lang/invoke/MethodHandle" ∧ y.cls ≠ "java/lang/invoke/VarHandle" ∧ (parseMethodDescriptor y.desc).map (fun d => d.parameters.length) = some 3) (hR : Ry.frames + 1 ≤ R.frames ∧ 8 + (maxLy + 11) + Ry.locals ≤ R.locals) (hsum : (st.map fun v => v.category).sum ≤ 8) (hst : Cond.static y ∈ Ts)
    (k : JW l cl Ns Ts own cc nL ret R (pc + 3) ls (.int r :: st) w1 Q) : JW l cl Ns Ts own cc nL ret R pc ls (v3 :: v2 :: v1 :: st) ws Q :=
  J_callS (As := [v1, v2, v3]) (rest := st) hd hM hcode hgood hrc hrs hini hli hdy hR rfl hsum hst (fun r0 w hq _ => by obtain ⟨rfl, rfl⟩ := hq; exact k)
theorem J_cSv3 {index maxLy : Nat} {y : MethodName} {bytes : ByteArray} {rety : Option FieldType} {Ry : Room} {v1 v2 v3 : Value} {w1 : jW} (hd : decode cc pc = .ok (.invokestatic index, 3)) (hM : JMet l cl Ns (.code y bytes maxLy rety :: Ts) y Ry [v1, v2, v3] ws (fun v w => v = none ∧ w = w1)) (hcode : Cond.code y bytes maxLy rety ∈ Ts) (hgood : ∀ w ∈ Ts, (w.onTables && w.keeps) = true ∨ ∃ ty, w = .arrayClass ty) (hrc : Ry.cells = 0) (hrs : Ry.slots = 0) (hini : Cond.initialized y.cls ∈ Ts) (hli : Cond.methodLink own index y ∈ Ts) (hdy : y.cls ≠ "java/lang/invoke/MethodHandle" ∧ y.cls ≠ "java/lang/invoke/VarHandle" ∧ (parseMethodDescriptor y.desc).map (fun d => d.parameters.length) = some 3) (hR : Ry.frames + 1 ≤ R.frames ∧ 8 + (maxLy + 11) + Ry.locals ≤ R.locals) (hsum : (st.map fun v => v.category).sum ≤ 8) (hst : Cond.static y ∈ Ts)
    (k : JW l cl Ns Ts own cc nL ret R (pc + 3) ls st w1 Q) : JW l cl Ns Ts own cc nL ret R pc ls (v3 :: v2 :: v1 :: st) ws Q :=
  J_callS (As := [v1, v2, v3]) (rest := st) hd hM hcode hgood hrc hrs hini hli hdy hR rfl hsum hst (fun r0 w hq _ => by obtain ⟨rfl, rfl⟩ := hq; exact k)
theorem J_cSi0N {index maxLy : Nat} {y : MethodName} {bytes : ByteArray} {rety : Option FieldType} {Ry : Room} {host : String} {r : Int32} {w1 : jW} (hd : decode cc pc = .ok (.invokestatic index, 3)) (hM : JMet l cl Ns (.code y bytes maxLy rety :: Ts) y Ry [] ws (fun v w => v = some (.int r) ∧ w = w1)) (hcode : Cond.code y bytes maxLy rety ∈ Ts) (hgood : ∀ w ∈ Ts, (w.onTables && w.keeps) = true ∨ ∃ ty, w = .arrayClass ty) (hrc : Ry.cells = 0) (hrs : Ry.slots = 0) (hini : Cond.initialized y.cls ∈ Ts) (hli : ((own, index, y, host) : String × Nat × MethodName × String) ∈ Ns) (hdy : y.cls ≠ "java/lang/invoke/MethodHandle" ∧ y.cls ≠ "java/lang/invoke/VarHandle" ∧ (parseMethodDescriptor y.desc).map (fun d => d.parameters.length) = some 0) (hR : Ry.frames + 1 ≤ R.frames ∧ 8 + (maxLy + 11) + Ry.locals ≤ R.locals) (hsum : (st.map fun v => v.category).sum ≤ 8) (hst : Cond.static y ∈ Ts)
    (k : JW l cl Ns Ts own cc nL ret R (pc + 3) ls (.int r :: st) w1 Q) : JW l cl Ns Ts own cc nL ret R pc ls (st) ws Q :=
  J_callSN (As := []) (rest := st) hd hM hcode hgood hrc hrs hini hli hdy hR rfl hsum hst (fun r0 w hq _ => by obtain ⟨rfl, rfl⟩ := hq; exact k)
theorem J_cSv0N {index maxLy : Nat} {y : MethodName} {bytes : ByteArray} {rety : Option FieldType} {Ry : Room} {host : String} {w1 : jW} (hd : decode cc pc = .ok (.invokestatic index, 3)) (hM : JMet l cl Ns (.code y bytes maxLy rety :: Ts) y Ry [] ws (fun v w => v = none ∧ w = w1)) (hcode : Cond.code y bytes maxLy rety ∈ Ts) (hgood : ∀ w ∈ Ts, (w.onTables && w.keeps) = true ∨ ∃ ty, w = .arrayClass ty) (hrc : Ry.cells = 0) (hrs : Ry.slots = 0) (hini : Cond.initialized y.cls ∈ Ts) (hli : ((own, index, y, host) : String × Nat × MethodName × String) ∈ Ns) (hdy : y.cls ≠ "java/lang/invoke/MethodHandle" ∧ y.cls ≠ "java/lang/invoke/VarHandle" ∧ (parseMethodDescriptor y.desc).map (fun d => d.parameters.length) = some 0) (hR : Ry.frames + 1 ≤ R.frames ∧ 8 + (maxLy + 11) + Ry.locals ≤ R.locals) (hsum : (st.map fun v => v.category).sum ≤ 8) (hst : Cond.static y ∈ Ts)
    (k : JW l cl Ns Ts own cc nL ret R (pc + 3) ls st w1 Q) : JW l cl Ns Ts own cc nL ret R pc ls (st) ws Q :=
  J_callSN (As := []) (rest := st) hd hM hcode hgood hrc hrs hini hli hdy hR rfl hsum hst (fun r0 w hq _ => by obtain ⟨rfl, rfl⟩ := hq; exact k)
theorem J_cSi1N {index maxLy : Nat} {y : MethodName} {bytes : ByteArray} {rety : Option FieldType} {Ry : Room} {host : String} {r : Int32} {v1 : Value} {w1 : jW} (hd : decode cc pc = .ok (.invokestatic index, 3)) (hM : JMet l cl Ns (.code y bytes maxLy rety :: Ts) y Ry [v1] ws (fun v w => v = some (.int r) ∧ w = w1)) (hcode : Cond.code y bytes maxLy rety ∈ Ts) (hgood : ∀ w ∈ Ts, (w.onTables && w.keeps) = true ∨ ∃ ty, w = .arrayClass ty) (hrc : Ry.cells = 0) (hrs : Ry.slots = 0) (hini : Cond.initialized y.cls ∈ Ts) (hli : ((own, index, y, host) : String × Nat × MethodName × String) ∈ Ns) (hdy : y.cls ≠ "java/lang/invoke/MethodHandle" ∧ y.cls ≠ "java/lang/invoke/VarHandle" ∧ (parseMethodDescriptor y.desc).map (fun d => d.parameters.length) = some 1) (hR : Ry.frames + 1 ≤ R.frames ∧ 8 + (maxLy + 11) + Ry.locals ≤ R.locals) (hsum : (st.map fun v => v.category).sum ≤ 8) (hst : Cond.static y ∈ Ts)
    (k : JW l cl Ns Ts own cc nL ret R (pc + 3) ls (.int r :: st) w1 Q) : JW l cl Ns Ts own cc nL ret R pc ls (v1 :: st) ws Q :=
  J_callSN (As := [v1]) (rest := st) hd hM hcode hgood hrc hrs hini hli hdy hR rfl hsum hst (fun r0 w hq _ => by obtain ⟨rfl, rfl⟩ := hq; exact k)
theorem J_cSv1N {index maxLy : Nat} {y : MethodName} {bytes : ByteArray} {rety : Option FieldType} {Ry : Room} {host : String} {v1 : Value} {w1 : jW} (hd : decode cc pc = .ok (.invokestatic index, 3)) (hM : JMet l cl Ns (.code y bytes maxLy rety :: Ts) y Ry [v1] ws (fun v w => v = none ∧ w = w1)) (hcode : Cond.code y bytes maxLy rety ∈ Ts) (hgood : ∀ w ∈ Ts, (w.onTables && w.keeps) = true ∨ ∃ ty, w = .arrayClass ty) (hrc : Ry.cells = 0) (hrs : Ry.slots = 0) (hini : Cond.initialized y.cls ∈ Ts) (hli : ((own, index, y, host) : String × Nat × MethodName × String) ∈ Ns) (hdy : y.cls ≠ "java/lang/invoke/MethodHandle" ∧ y.cls ≠ "java/lang/invoke/VarHandle" ∧ (parseMethodDescriptor y.desc).map (fun d => d.parameters.length) = some 1) (hR : Ry.frames + 1 ≤ R.frames ∧ 8 + (maxLy + 11) + Ry.locals ≤ R.locals) (hsum : (st.map fun v => v.category).sum ≤ 8) (hst : Cond.static y ∈ Ts)
    (k : JW l cl Ns Ts own cc nL ret R (pc + 3) ls st w1 Q) : JW l cl Ns Ts own cc nL ret R pc ls (v1 :: st) ws Q :=
  J_callSN (As := [v1]) (rest := st) hd hM hcode hgood hrc hrs hini hli hdy hR rfl hsum hst (fun r0 w hq _ => by obtain ⟨rfl, rfl⟩ := hq; exact k)
theorem J_cSi2N {index maxLy : Nat} {y : MethodName} {bytes : ByteArray} {rety : Option FieldType} {Ry : Room} {host : String} {r : Int32} {v1 v2 : Value} {w1 : jW} (hd : decode cc pc = .ok (.invokestatic index, 3)) (hM : JMet l cl Ns (.code y bytes maxLy rety :: Ts) y Ry [v1, v2] ws (fun v w => v = some (.int r) ∧ w = w1)) (hcode : Cond.code y bytes maxLy rety ∈ Ts) (hgood : ∀ w ∈ Ts, (w.onTables && w.keeps) = true ∨ ∃ ty, w = .arrayClass ty) (hrc : Ry.cells = 0) (hrs : Ry.slots = 0) (hini : Cond.initialized y.cls ∈ Ts) (hli : ((own, index, y, host) : String × Nat × MethodName × String) ∈ Ns) (hdy : y.cls ≠ "java/lang/invoke/MethodHandle" ∧ y.cls ≠ "java/lang/invoke/VarHandle" ∧ (parseMethodDescriptor y.desc).map (fun d => d.parameters.length) = some 2) (hR : Ry.frames + 1 ≤ R.frames ∧ 8 + (maxLy + 11) + Ry.locals ≤ R.locals) (hsum : (st.map fun v => v.category).sum ≤ 8) (hst : Cond.static y ∈ Ts)
    (k : JW l cl Ns Ts own cc nL ret R (pc + 3) ls (.int r :: st) w1 Q) : JW l cl Ns Ts own cc nL ret R pc ls (v2 :: v1 :: st) ws Q :=
  J_callSN (As := [v1, v2]) (rest := st) hd hM hcode hgood hrc hrs hini hli hdy hR rfl hsum hst (fun r0 w hq _ => by obtain ⟨rfl, rfl⟩ := hq; exact k)
theorem J_cSv2N {index maxLy : Nat} {y : MethodName} {bytes : ByteArray} {rety : Option FieldType} {Ry : Room} {host : String} {v1 v2 : Value} {w1 : jW} (hd : decode cc pc = .ok (.invokestatic index, 3)) (hM : JMet l cl Ns (.code y bytes maxLy rety :: Ts) y Ry [v1, v2] ws (fun v w => v = none ∧ w = w1)) (hcode : Cond.code y bytes maxLy rety ∈ Ts) (hgood : ∀ w ∈ Ts, (w.onTables && w.keeps) = true ∨ ∃ ty, w = .arrayClass ty) (hrc : Ry.cells = 0) (hrs : Ry.slots = 0) (hini : Cond.initialized y.cls ∈ Ts) (hli : ((own, index, y, host) : String × Nat × MethodName × String) ∈ Ns) (hdy : y.cls ≠ "java/lang/invoke/MethodHandle" ∧ y.cls ≠ "java/lang/invoke/VarHandle" ∧ (parseMethodDescriptor y.desc).map (fun d => d.parameters.length) = some 2) (hR : Ry.frames + 1 ≤ R.frames ∧ 8 + (maxLy + 11) + Ry.locals ≤ R.locals) (hsum : (st.map fun v => v.category).sum ≤ 8) (hst : Cond.static y ∈ Ts)
    (k : JW l cl Ns Ts own cc nL ret R (pc + 3) ls st w1 Q) : JW l cl Ns Ts own cc nL ret R pc ls (v2 :: v1 :: st) ws Q :=
  J_callSN (As := [v1, v2]) (rest := st) hd hM hcode hgood hrc hrs hini hli hdy hR rfl hsum hst (fun r0 w hq _ => by obtain ⟨rfl, rfl⟩ := hq; exact k)
theorem J_cSi3N {index maxLy : Nat} {y : MethodName} {bytes : ByteArray} {rety : Option FieldType} {Ry : Room} {host : String} {r : Int32} {v1 v2 v3 : Value} {w1 : jW} (hd : decode cc pc = .ok (.invokestatic index, 3)) (hM : JMet l cl Ns (.code y bytes maxLy rety :: Ts) y Ry [v1, v2, v3] ws (fun v w => v = some (.int r) ∧ w = w1)) (hcode : Cond.code y bytes maxLy rety ∈ Ts) (hgood : ∀ w ∈ Ts, (w.onTables && w.keeps) = true ∨ ∃ ty, w = .arrayClass ty) (hrc : Ry.cells = 0) (hrs : Ry.slots = 0) (hini : Cond.initialized y.cls ∈ Ts) (hli : ((own, index, y, host) : String × Nat × MethodName × String) ∈ Ns) (hdy : y.cls ≠ "java/lang/invoke/MethodHandle" ∧ y.cls ≠ "java/lang/invoke/VarHandle" ∧ (parseMethodDescriptor y.desc).map (fun d => d.parameters.length) = some 3) (hR : Ry.frames + 1 ≤ R.frames ∧ 8 + (maxLy + 11) + Ry.locals ≤ R.locals) (hsum : (st.map fun v => v.category).sum ≤ 8) (hst : Cond.static y ∈ Ts)
    (k : JW l cl Ns Ts own cc nL ret R (pc + 3) ls (.int r :: st) w1 Q) : JW l cl Ns Ts own cc nL ret R pc ls (v3 :: v2 :: v1 :: st) ws Q :=
  J_callSN (As := [v1, v2, v3]) (rest := st) hd hM hcode hgood hrc hrs hini hli hdy hR rfl hsum hst (fun r0 w hq _ => by obtain ⟨rfl, rfl⟩ := hq; exact k)
theorem J_cSv3N {index maxLy : Nat} {y : MethodName} {bytes : ByteArray} {rety : Option FieldType} {Ry : Room} {host : String} {v1 v2 v3 : Value} {w1 : jW} (hd : decode cc pc = .ok (.invokestatic index, 3)) (hM : JMet l cl Ns (.code y bytes maxLy rety :: Ts) y Ry [v1, v2, v3] ws (fun v w => v = none ∧ w = w1)) (hcode : Cond.code y bytes maxLy rety ∈ Ts) (hgood : ∀ w ∈ Ts, (w.onTables && w.keeps) = true ∨ ∃ ty, w = .arrayClass ty) (hrc : Ry.cells = 0) (hrs : Ry.slots = 0) (hini : Cond.initialized y.cls ∈ Ts) (hli : ((own, index, y, host) : String × Nat × MethodName × String) ∈ Ns) (hdy : y.cls ≠ "java/lang/invoke/MethodHandle" ∧ y.cls ≠ "java/lang/invoke/VarHandle" ∧ (parseMethodDescriptor y.desc).map (fun d => d.parameters.length) = some 3) (hR : Ry.frames + 1 ≤ R.frames ∧ 8 + (maxLy + 11) + Ry.locals ≤ R.locals) (hsum : (st.map fun v => v.category).sum ≤ 8) (hst : Cond.static y ∈ Ts)
    (k : JW l cl Ns Ts own cc nL ret R (pc + 3) ls st w1 Q) : JW l cl Ns Ts own cc nL ret R pc ls (v3 :: v2 :: v1 :: st) ws Q :=
  J_callSN (As := [v1, v2, v3]) (rest := st) hd hM hcode hgood hrc hrs hini hli hdy hR rfl hsum hst (fun r0 w hq _ => by obtain ⟨rfl, rfl⟩ := hq; exact k)
theorem J_cVi0 {index maxLy : Nat} {y : MethodName} {bytes : ByteArray} {rety : Option FieldType} {Ry : Room} {r : Int32} {b ci N : Nat} {fs : List Value} {T : u_T} {w1 : jW} (hd : decode cc pc = .ok (.invokevirtual index, 3)) (hM : JMet l cl Ns (.code y bytes maxLy rety :: Ts) y Ry (.ref b :: []) ws (fun v w => v = some (.int r) ∧ w = w1)) (he : ws[b]? = some (.inr (ci, fs))) (hc : cl[ci]? = some (y.cls, T, N)) (hcode : Cond.code y bytes maxLy rety ∈ Ts) (hgood : ∀ w ∈ Ts, (w.onTables && w.keeps) = true ∨ ∃ ty, w = .arrayClass ty) (hrc : Ry.cells = 0) (hrs : Ry.slots = 0) (hini : Cond.initialized y.cls ∈ Ts) (hli : Cond.methodLink own index y ∈ Ts) (hdy : y.cls ≠ "java/lang/invoke/MethodHandle" ∧ y.cls ≠ "java/lang/invoke/VarHandle" ∧ (parseMethodDescriptor y.desc).map (fun d => d.parameters.length) = some 0) (hR : Ry.frames + 1 ≤ R.frames ∧ 8 + (maxLy + 11) + Ry.locals ≤ R.locals) (hsum : (st.map fun v => v.category).sum ≤ 8) (hst : Cond.instanceMethod y ∈ Ts) (hsel : Cond.selects y.cls y y ∈ Ts)
    (k : JW l cl Ns Ts own cc nL ret R (pc + 3) ls (.int r :: st) w1 Q) : JW l cl Ns Ts own cc nL ret R pc ls (.ref b :: st) ws Q :=
  J_callV (As := []) (rest := st) hd hM he hc hcode hgood hrc hrs hini hli hdy hR rfl hsum hst hsel (fun r0 w hq _ => by obtain ⟨rfl, rfl⟩ := hq; exact k)
theorem J_cVv0 {index maxLy : Nat} {y : MethodName} {bytes : ByteArray} {rety : Option FieldType} {Ry : Room} {b ci N : Nat} {fs : List Value} {T : u_T} {w1 : jW} (hd : decode cc pc = .ok (.invokevirtual index, 3)) (hM : JMet l cl Ns (.code y bytes maxLy rety :: Ts) y Ry (.ref b :: []) ws (fun v w => v = none ∧ w = w1)) (he : ws[b]? = some (.inr (ci, fs))) (hc : cl[ci]? = some (y.cls, T, N)) (hcode : Cond.code y bytes maxLy rety ∈ Ts) (hgood : ∀ w ∈ Ts, (w.onTables && w.keeps) = true ∨ ∃ ty, w = .arrayClass ty) (hrc : Ry.cells = 0) (hrs : Ry.slots = 0) (hini : Cond.initialized y.cls ∈ Ts) (hli : Cond.methodLink own index y ∈ Ts) (hdy : y.cls ≠ "java/lang/invoke/MethodHandle" ∧ y.cls ≠ "java/lang/invoke/VarHandle" ∧ (parseMethodDescriptor y.desc).map (fun d => d.parameters.length) = some 0) (hR : Ry.frames + 1 ≤ R.frames ∧ 8 + (maxLy + 11) + Ry.locals ≤ R.locals) (hsum : (st.map fun v => v.category).sum ≤ 8) (hst : Cond.instanceMethod y ∈ Ts) (hsel : Cond.selects y.cls y y ∈ Ts)
    (k : JW l cl Ns Ts own cc nL ret R (pc + 3) ls st w1 Q) : JW l cl Ns Ts own cc nL ret R pc ls (.ref b :: st) ws Q :=
  J_callV (As := []) (rest := st) hd hM he hc hcode hgood hrc hrs hini hli hdy hR rfl hsum hst hsel (fun r0 w hq _ => by obtain ⟨rfl, rfl⟩ := hq; exact k)
theorem J_cVi1 {index maxLy : Nat} {y : MethodName} {bytes : ByteArray} {rety : Option FieldType} {Ry : Room} {r : Int32} {v1 : Value} {b ci N : Nat} {fs : List Value} {T : u_T} {w1 : jW} (hd : decode cc pc = .ok (.invokevirtual index, 3)) (hM : JMet l cl Ns (.code y bytes maxLy rety :: Ts) y Ry (.ref b :: [v1]) ws (fun v w => v = some (.int r) ∧ w = w1)) (he : ws[b]? = some (.inr (ci, fs))) (hc : cl[ci]? = some (y.cls, T, N)) (hcode : Cond.code y bytes maxLy rety ∈ Ts) (hgood : ∀ w ∈ Ts, (w.onTables && w.keeps) = true ∨ ∃ ty, w = .arrayClass ty) (hrc : Ry.cells = 0) (hrs : Ry.slots = 0) (hini : Cond.initialized y.cls ∈ Ts) (hli : Cond.methodLink own index y ∈ Ts) (hdy : y.cls ≠ "java/lang/invoke/MethodHandle" ∧ y.cls ≠ "java/lang/invoke/VarHandle" ∧ (parseMethodDescriptor y.desc).map (fun d => d.parameters.length) = some 1) (hR : Ry.frames + 1 ≤ R.frames ∧ 8 + (maxLy + 11) + Ry.locals ≤ R.locals) (hsum : (st.map fun v => v.category).sum ≤ 8) (hst : Cond.instanceMethod y ∈ Ts) (hsel : Cond.selects y.cls y y ∈ Ts)
    (k : JW l cl Ns Ts own cc nL ret R (pc + 3) ls (.int r :: st) w1 Q) : JW l cl Ns Ts own cc nL ret R pc ls (v1 :: .ref b :: st) ws Q :=
  J_callV (As := [v1]) (rest := st) hd hM he hc hcode hgood hrc hrs hini hli hdy hR rfl hsum hst hsel (fun r0 w hq _ => by obtain ⟨rfl, rfl⟩ := hq; exact k)
theorem J_cVv1 {index maxLy : Nat} {y : MethodName} {bytes : ByteArray} {rety : Option FieldType} {Ry : Room} {v1 : Value} {b ci N : Nat} {fs : List Value} {T : u_T} {w1 : jW} (hd : decode cc pc = .ok (.invokevirtual index, 3)) (hM : JMet l cl Ns (.code y bytes maxLy rety :: Ts) y Ry (.ref b :: [v1]) ws (fun v w => v = none ∧ w = w1)) (he : ws[b]? = some (.inr (ci, fs))) (hc : cl[ci]? = some (y.cls, T, N)) (hcode : Cond.code y bytes maxLy rety ∈ Ts) (hgood : ∀ w ∈ Ts, (w.onTables && w.keeps) = true ∨ ∃ ty, w = .arrayClass ty) (hrc : Ry.cells = 0) (hrs : Ry.slots = 0) (hini : Cond.initialized y.cls ∈ Ts) (hli : Cond.methodLink own index y ∈ Ts) (hdy : y.cls ≠ "java/lang/invoke/MethodHandle" ∧ y.cls ≠ "java/lang/invoke/VarHandle" ∧ (parseMethodDescriptor y.desc).map (fun d => d.parameters.length) = some 1) (hR : Ry.frames + 1 ≤ R.frames ∧ 8 + (maxLy + 11) + Ry.locals ≤ R.locals) (hsum : (st.map fun v => v.category).sum ≤ 8) (hst : Cond.instanceMethod y ∈ Ts) (hsel : Cond.selects y.cls y y ∈ Ts)
    (k : JW l cl Ns Ts own cc nL ret R (pc + 3) ls st w1 Q) : JW l cl Ns Ts own cc nL ret R pc ls (v1 :: .ref b :: st) ws Q :=
  J_callV (As := [v1]) (rest := st) hd hM he hc hcode hgood hrc hrs hini hli hdy hR rfl hsum hst hsel (fun r0 w hq _ => by obtain ⟨rfl, rfl⟩ := hq; exact k)
theorem J_cVi2 {index maxLy : Nat} {y : MethodName} {bytes : ByteArray} {rety : Option FieldType} {Ry : Room} {r : Int32} {v1 v2 : Value} {b ci N : Nat} {fs : List Value} {T : u_T} {w1 : jW} (hd : decode cc pc = .ok (.invokevirtual index, 3)) (hM : JMet l cl Ns (.code y bytes maxLy rety :: Ts) y Ry (.ref b :: [v1, v2]) ws (fun v w => v = some (.int r) ∧ w = w1)) (he : ws[b]? = some (.inr (ci, fs))) (hc : cl[ci]? = some (y.cls, T, N)) (hcode : Cond.code y bytes maxLy rety ∈ Ts) (hgood : ∀ w ∈ Ts, (w.onTables && w.keeps) = true ∨ ∃ ty, w = .arrayClass ty) (hrc : Ry.cells = 0) (hrs : Ry.slots = 0) (hini : Cond.initialized y.cls ∈ Ts) (hli : Cond.methodLink own index y ∈ Ts) (hdy : y.cls ≠ "java/lang/invoke/MethodHandle" ∧ y.cls ≠ "java/lang/invoke/VarHandle" ∧ (parseMethodDescriptor y.desc).map (fun d => d.parameters.length) = some 2) (hR : Ry.frames + 1 ≤ R.frames ∧ 8 + (maxLy + 11) + Ry.locals ≤ R.locals) (hsum : (st.map fun v => v.category).sum ≤ 8) (hst : Cond.instanceMethod y ∈ Ts) (hsel : Cond.selects y.cls y y ∈ Ts)
    (k : JW l cl Ns Ts own cc nL ret R (pc + 3) ls (.int r :: st) w1 Q) : JW l cl Ns Ts own cc nL ret R pc ls (v2 :: v1 :: .ref b :: st) ws Q :=
  J_callV (As := [v1, v2]) (rest := st) hd hM he hc hcode hgood hrc hrs hini hli hdy hR rfl hsum hst hsel (fun r0 w hq _ => by obtain ⟨rfl, rfl⟩ := hq; exact k)
theorem J_cVv2 {index maxLy : Nat} {y : MethodName} {bytes : ByteArray} {rety : Option FieldType} {Ry : Room} {v1 v2 : Value} {b ci N : Nat} {fs : List Value} {T : u_T} {w1 : jW} (hd : decode cc pc = .ok (.invokevirtual index, 3)) (hM : JMet l cl Ns (.code y bytes maxLy rety :: Ts) y Ry (.ref b :: [v1, v2]) ws (fun v w => v = none ∧ w = w1)) (he : ws[b]? = some (.inr (ci, fs))) (hc : cl[ci]? = some (y.cls, T, N)) (hcode : Cond.code y bytes maxLy rety ∈ Ts) (hgood : ∀ w ∈ Ts, (w.onTables && w.keeps) = true ∨ ∃ ty, w = .arrayClass ty) (hrc : Ry.cells = 0) (hrs : Ry.slots = 0) (hini : Cond.initialized y.cls ∈ Ts) (hli : Cond.methodLink own index y ∈ Ts) (hdy : y.cls ≠ "java/lang/invoke/MethodHandle" ∧ y.cls ≠ "java/lang/invoke/VarHandle" ∧ (parseMethodDescriptor y.desc).map (fun d => d.parameters.length) = some 2) (hR : Ry.frames + 1 ≤ R.frames ∧ 8 + (maxLy + 11) + Ry.locals ≤ R.locals) (hsum : (st.map fun v => v.category).sum ≤ 8) (hst : Cond.instanceMethod y ∈ Ts) (hsel : Cond.selects y.cls y y ∈ Ts)
    (k : JW l cl Ns Ts own cc nL ret R (pc + 3) ls st w1 Q) : JW l cl Ns Ts own cc nL ret R pc ls (v2 :: v1 :: .ref b :: st) ws Q :=
  J_callV (As := [v1, v2]) (rest := st) hd hM he hc hcode hgood hrc hrs hini hli hdy hR rfl hsum hst hsel (fun r0 w hq _ => by obtain ⟨rfl, rfl⟩ := hq; exact k)
theorem J_cVi3 {index maxLy : Nat} {y : MethodName} {bytes : ByteArray} {rety : Option FieldType} {Ry : Room} {r : Int32} {v1 v2 v3 : Value} {b ci N : Nat} {fs : List Value} {T : u_T} {w1 : jW} (hd : decode cc pc = .ok (.invokevirtual index, 3)) (hM : JMet l cl Ns (.code y bytes maxLy rety :: Ts) y Ry (.ref b :: [v1, v2, v3]) ws (fun v w => v = some (.int r) ∧ w = w1)) (he : ws[b]? = some (.inr (ci, fs))) (hc : cl[ci]? = some (y.cls, T, N)) (hcode : Cond.code y bytes maxLy rety ∈ Ts) (hgood : ∀ w ∈ Ts, (w.onTables && w.keeps) = true ∨ ∃ ty, w = .arrayClass ty) (hrc : Ry.cells = 0) (hrs : Ry.slots = 0) (hini : Cond.initialized y.cls ∈ Ts) (hli : Cond.methodLink own index y ∈ Ts) (hdy : y.cls ≠ "java/lang/invoke/MethodHandle" ∧ y.cls ≠ "java/lang/invoke/VarHandle" ∧ (parseMethodDescriptor y.desc).map (fun d => d.parameters.length) = some 3) (hR : Ry.frames + 1 ≤ R.frames ∧ 8 + (maxLy + 11) + Ry.locals ≤ R.locals) (hsum : (st.map fun v => v.category).sum ≤ 8) (hst : Cond.instanceMethod y ∈ Ts) (hsel : Cond.selects y.cls y y ∈ Ts)
    (k : JW l cl Ns Ts own cc nL ret R (pc + 3) ls (.int r :: st) w1 Q) : JW l cl Ns Ts own cc nL ret R pc ls (v3 :: v2 :: v1 :: .ref b :: st) ws Q :=
  J_callV (As := [v1, v2, v3]) (rest := st) hd hM he hc hcode hgood hrc hrs hini hli hdy hR rfl hsum hst hsel (fun r0 w hq _ => by obtain ⟨rfl, rfl⟩ := hq; exact k)
theorem J_cVv3 {index maxLy : Nat} {y : MethodName} {bytes : ByteArray} {rety : Option FieldType} {Ry : Room} {v1 v2 v3 : Value} {b ci N : Nat} {fs : List Value} {T : u_T} {w1 : jW} (hd : decode cc pc = .ok (.invokevirtual index, 3)) (hM : JMet l cl Ns (.code y bytes maxLy rety :: Ts) y Ry (.ref b :: [v1, v2, v3]) ws (fun v w => v = none ∧ w = w1)) (he : ws[b]? = some (.inr (ci, fs))) (hc : cl[ci]? = some (y.cls, T, N)) (hcode : Cond.code y bytes maxLy rety ∈ Ts) (hgood : ∀ w ∈ Ts, (w.onTables && w.keeps) = true ∨ ∃ ty, w = .arrayClass ty) (hrc : Ry.cells = 0) (hrs : Ry.slots = 0) (hini : Cond.initialized y.cls ∈ Ts) (hli : Cond.methodLink own index y ∈ Ts) (hdy : y.cls ≠ "java/lang/invoke/MethodHandle" ∧ y.cls ≠ "java/lang/invoke/VarHandle" ∧ (parseMethodDescriptor y.desc).map (fun d => d.parameters.length) = some 3) (hR : Ry.frames + 1 ≤ R.frames ∧ 8 + (maxLy + 11) + Ry.locals ≤ R.locals) (hsum : (st.map fun v => v.category).sum ≤ 8) (hst : Cond.instanceMethod y ∈ Ts) (hsel : Cond.selects y.cls y y ∈ Ts)
    (k : JW l cl Ns Ts own cc nL ret R (pc + 3) ls st w1 Q) : JW l cl Ns Ts own cc nL ret R pc ls (v3 :: v2 :: v1 :: .ref b :: st) ws Q :=
  J_callV (As := [v1, v2, v3]) (rest := st) hd hM he hc hcode hgood hrc hrs hini hli hdy hR rfl hsum hst hsel (fun r0 w hq _ => by obtain ⟨rfl, rfl⟩ := hq; exact k)
theorem J_cVi0N {index maxLy : Nat} {y : MethodName} {bytes : ByteArray} {rety : Option FieldType} {Ry : Room} {host : String} {r : Int32} {b ci N : Nat} {fs : List Value} {T : u_T} {w1 : jW} (hd : decode cc pc = .ok (.invokevirtual index, 3)) (hM : JMet l cl Ns (.code y bytes maxLy rety :: Ts) y Ry (.ref b :: []) ws (fun v w => v = some (.int r) ∧ w = w1)) (he : ws[b]? = some (.inr (ci, fs))) (hc : cl[ci]? = some (y.cls, T, N)) (hcode : Cond.code y bytes maxLy rety ∈ Ts) (hgood : ∀ w ∈ Ts, (w.onTables && w.keeps) = true ∨ ∃ ty, w = .arrayClass ty) (hrc : Ry.cells = 0) (hrs : Ry.slots = 0) (hini : Cond.initialized y.cls ∈ Ts) (hli : ((own, index, y, host) : String × Nat × MethodName × String) ∈ Ns) (hdy : y.cls ≠ "java/lang/invoke/MethodHandle" ∧ y.cls ≠ "java/lang/invoke/VarHandle" ∧ (parseMethodDescriptor y.desc).map (fun d => d.parameters.length) = some 0) (hR : Ry.frames + 1 ≤ R.frames ∧ 8 + (maxLy + 11) + Ry.locals ≤ R.locals) (hsum : (st.map fun v => v.category).sum ≤ 8) (hst : Cond.instanceMethod y ∈ Ts) (hsel : Cond.selects y.cls y y ∈ Ts)
    (k : JW l cl Ns Ts own cc nL ret R (pc + 3) ls (.int r :: st) w1 Q) : JW l cl Ns Ts own cc nL ret R pc ls (.ref b :: st) ws Q :=
  J_callVN (As := []) (rest := st) hd hM he hc hcode hgood hrc hrs hini hli hdy hR rfl hsum hst hsel (fun r0 w hq _ => by obtain ⟨rfl, rfl⟩ := hq; exact k)
theorem J_cVv0N {index maxLy : Nat} {y : MethodName} {bytes : ByteArray} {rety : Option FieldType} {Ry : Room} {host : String} {b ci N : Nat} {fs : List Value} {T : u_T} {w1 : jW} (hd : decode cc pc = .ok (.invokevirtual index, 3)) (hM : JMet l cl Ns (.code y bytes maxLy rety :: Ts) y Ry (.ref b :: []) ws (fun v w => v = none ∧ w = w1)) (he : ws[b]? = some (.inr (ci, fs))) (hc : cl[ci]? = some (y.cls, T, N)) (hcode : Cond.code y bytes maxLy rety ∈ Ts) (hgood : ∀ w ∈ Ts, (w.onTables && w.keeps) = true ∨ ∃ ty, w = .arrayClass ty) (hrc : Ry.cells = 0) (hrs : Ry.slots = 0) (hini : Cond.initialized y.cls ∈ Ts) (hli : ((own, index, y, host) : String × Nat × MethodName × String) ∈ Ns) (hdy : y.cls ≠ "java/lang/invoke/MethodHandle" ∧ y.cls ≠ "java/lang/invoke/VarHandle" ∧ (parseMethodDescriptor y.desc).map (fun d => d.parameters.length) = some 0) (hR : Ry.frames + 1 ≤ R.frames ∧ 8 + (maxLy + 11) + Ry.locals ≤ R.locals) (hsum : (st.map fun v => v.category).sum ≤ 8) (hst : Cond.instanceMethod y ∈ Ts) (hsel : Cond.selects y.cls y y ∈ Ts)
    (k : JW l cl Ns Ts own cc nL ret R (pc + 3) ls st w1 Q) : JW l cl Ns Ts own cc nL ret R pc ls (.ref b :: st) ws Q :=
  J_callVN (As := []) (rest := st) hd hM he hc hcode hgood hrc hrs hini hli hdy hR rfl hsum hst hsel (fun r0 w hq _ => by obtain ⟨rfl, rfl⟩ := hq; exact k)
theorem J_cVi1N {index maxLy : Nat} {y : MethodName} {bytes : ByteArray} {rety : Option FieldType} {Ry : Room} {host : String} {r : Int32} {v1 : Value} {b ci N : Nat} {fs : List Value} {T : u_T} {w1 : jW} (hd : decode cc pc = .ok (.invokevirtual index, 3)) (hM : JMet l cl Ns (.code y bytes maxLy rety :: Ts) y Ry (.ref b :: [v1]) ws (fun v w => v = some (.int r) ∧ w = w1)) (he : ws[b]? = some (.inr (ci, fs))) (hc : cl[ci]? = some (y.cls, T, N)) (hcode : Cond.code y bytes maxLy rety ∈ Ts) (hgood : ∀ w ∈ Ts, (w.onTables && w.keeps) = true ∨ ∃ ty, w = .arrayClass ty) (hrc : Ry.cells = 0) (hrs : Ry.slots = 0) (hini : Cond.initialized y.cls ∈ Ts) (hli : ((own, index, y, host) : String × Nat × MethodName × String) ∈ Ns) (hdy : y.cls ≠ "java/lang/invoke/MethodHandle" ∧ y.cls ≠ "java/lang/invoke/VarHandle" ∧ (parseMethodDescriptor y.desc).map (fun d => d.parameters.length) = some 1) (hR : Ry.frames + 1 ≤ R.frames ∧ 8 + (maxLy + 11) + Ry.locals ≤ R.locals) (hsum : (st.map fun v => v.category).sum ≤ 8) (hst : Cond.instanceMethod y ∈ Ts) (hsel : Cond.selects y.cls y y ∈ Ts)
    (k : JW l cl Ns Ts own cc nL ret R (pc + 3) ls (.int r :: st) w1 Q) : JW l cl Ns Ts own cc nL ret R pc ls (v1 :: .ref b :: st) ws Q :=
  J_callVN (As := [v1]) (rest := st) hd hM he hc hcode hgood hrc hrs hini hli hdy hR rfl hsum hst hsel (fun r0 w hq _ => by obtain ⟨rfl, rfl⟩ := hq; exact k)
theorem J_cVv1N {index maxLy : Nat} {y : MethodName} {bytes : ByteArray} {rety : Option FieldType} {Ry : Room} {host : String} {v1 : Value} {b ci N : Nat} {fs : List Value} {T : u_T} {w1 : jW} (hd : decode cc pc = .ok (.invokevirtual index, 3)) (hM : JMet l cl Ns (.code y bytes maxLy rety :: Ts) y Ry (.ref b :: [v1]) ws (fun v w => v = none ∧ w = w1)) (he : ws[b]? = some (.inr (ci, fs))) (hc : cl[ci]? = some (y.cls, T, N)) (hcode : Cond.code y bytes maxLy rety ∈ Ts) (hgood : ∀ w ∈ Ts, (w.onTables && w.keeps) = true ∨ ∃ ty, w = .arrayClass ty) (hrc : Ry.cells = 0) (hrs : Ry.slots = 0) (hini : Cond.initialized y.cls ∈ Ts) (hli : ((own, index, y, host) : String × Nat × MethodName × String) ∈ Ns) (hdy : y.cls ≠ "java/lang/invoke/MethodHandle" ∧ y.cls ≠ "java/lang/invoke/VarHandle" ∧ (parseMethodDescriptor y.desc).map (fun d => d.parameters.length) = some 1) (hR : Ry.frames + 1 ≤ R.frames ∧ 8 + (maxLy + 11) + Ry.locals ≤ R.locals) (hsum : (st.map fun v => v.category).sum ≤ 8) (hst : Cond.instanceMethod y ∈ Ts) (hsel : Cond.selects y.cls y y ∈ Ts)
    (k : JW l cl Ns Ts own cc nL ret R (pc + 3) ls st w1 Q) : JW l cl Ns Ts own cc nL ret R pc ls (v1 :: .ref b :: st) ws Q :=
  J_callVN (As := [v1]) (rest := st) hd hM he hc hcode hgood hrc hrs hini hli hdy hR rfl hsum hst hsel (fun r0 w hq _ => by obtain ⟨rfl, rfl⟩ := hq; exact k)
theorem J_cVi2N {index maxLy : Nat} {y : MethodName} {bytes : ByteArray} {rety : Option FieldType} {Ry : Room} {host : String} {r : Int32} {v1 v2 : Value} {b ci N : Nat} {fs : List Value} {T : u_T} {w1 : jW} (hd : decode cc pc = .ok (.invokevirtual index, 3)) (hM : JMet l cl Ns (.code y bytes maxLy rety :: Ts) y Ry (.ref b :: [v1, v2]) ws (fun v w => v = some (.int r) ∧ w = w1)) (he : ws[b]? = some (.inr (ci, fs))) (hc : cl[ci]? = some (y.cls, T, N)) (hcode : Cond.code y bytes maxLy rety ∈ Ts) (hgood : ∀ w ∈ Ts, (w.onTables && w.keeps) = true ∨ ∃ ty, w = .arrayClass ty) (hrc : Ry.cells = 0) (hrs : Ry.slots = 0) (hini : Cond.initialized y.cls ∈ Ts) (hli : ((own, index, y, host) : String × Nat × MethodName × String) ∈ Ns) (hdy : y.cls ≠ "java/lang/invoke/MethodHandle" ∧ y.cls ≠ "java/lang/invoke/VarHandle" ∧ (parseMethodDescriptor y.desc).map (fun d => d.parameters.length) = some 2) (hR : Ry.frames + 1 ≤ R.frames ∧ 8 + (maxLy + 11) + Ry.locals ≤ R.locals) (hsum : (st.map fun v => v.category).sum ≤ 8) (hst : Cond.instanceMethod y ∈ Ts) (hsel : Cond.selects y.cls y y ∈ Ts)
    (k : JW l cl Ns Ts own cc nL ret R (pc + 3) ls (.int r :: st) w1 Q) : JW l cl Ns Ts own cc nL ret R pc ls (v2 :: v1 :: .ref b :: st) ws Q :=
  J_callVN (As := [v1, v2]) (rest := st) hd hM he hc hcode hgood hrc hrs hini hli hdy hR rfl hsum hst hsel (fun r0 w hq _ => by obtain ⟨rfl, rfl⟩ := hq; exact k)
theorem J_cVv2N {index maxLy : Nat} {y : MethodName} {bytes : ByteArray} {rety : Option FieldType} {Ry : Room} {host : String} {v1 v2 : Value} {b ci N : Nat} {fs : List Value} {T : u_T} {w1 : jW} (hd : decode cc pc = .ok (.invokevirtual index, 3)) (hM : JMet l cl Ns (.code y bytes maxLy rety :: Ts) y Ry (.ref b :: [v1, v2]) ws (fun v w => v = none ∧ w = w1)) (he : ws[b]? = some (.inr (ci, fs))) (hc : cl[ci]? = some (y.cls, T, N)) (hcode : Cond.code y bytes maxLy rety ∈ Ts) (hgood : ∀ w ∈ Ts, (w.onTables && w.keeps) = true ∨ ∃ ty, w = .arrayClass ty) (hrc : Ry.cells = 0) (hrs : Ry.slots = 0) (hini : Cond.initialized y.cls ∈ Ts) (hli : ((own, index, y, host) : String × Nat × MethodName × String) ∈ Ns) (hdy : y.cls ≠ "java/lang/invoke/MethodHandle" ∧ y.cls ≠ "java/lang/invoke/VarHandle" ∧ (parseMethodDescriptor y.desc).map (fun d => d.parameters.length) = some 2) (hR : Ry.frames + 1 ≤ R.frames ∧ 8 + (maxLy + 11) + Ry.locals ≤ R.locals) (hsum : (st.map fun v => v.category).sum ≤ 8) (hst : Cond.instanceMethod y ∈ Ts) (hsel : Cond.selects y.cls y y ∈ Ts)
    (k : JW l cl Ns Ts own cc nL ret R (pc + 3) ls st w1 Q) : JW l cl Ns Ts own cc nL ret R pc ls (v2 :: v1 :: .ref b :: st) ws Q :=
  J_callVN (As := [v1, v2]) (rest := st) hd hM he hc hcode hgood hrc hrs hini hli hdy hR rfl hsum hst hsel (fun r0 w hq _ => by obtain ⟨rfl, rfl⟩ := hq; exact k)
theorem J_cVi3N {index maxLy : Nat} {y : MethodName} {bytes : ByteArray} {rety : Option FieldType} {Ry : Room} {host : String} {r : Int32} {v1 v2 v3 : Value} {b ci N : Nat} {fs : List Value} {T : u_T} {w1 : jW} (hd : decode cc pc = .ok (.invokevirtual index, 3)) (hM : JMet l cl Ns (.code y bytes maxLy rety :: Ts) y Ry (.ref b :: [v1, v2, v3]) ws (fun v w => v = some (.int r) ∧ w = w1)) (he : ws[b]? = some (.inr (ci, fs))) (hc : cl[ci]? = some (y.cls, T, N)) (hcode : Cond.code y bytes maxLy rety ∈ Ts) (hgood : ∀ w ∈ Ts, (w.onTables && w.keeps) = true ∨ ∃ ty, w = .arrayClass ty) (hrc : Ry.cells = 0) (hrs : Ry.slots = 0) (hini : Cond.initialized y.cls ∈ Ts) (hli : ((own, index, y, host) : String × Nat × MethodName × String) ∈ Ns) (hdy : y.cls ≠ "java/lang/invoke/MethodHandle" ∧ y.cls ≠ "java/lang/invoke/VarHandle" ∧ (parseMethodDescriptor y.desc).map (fun d => d.parameters.length) = some 3) (hR : Ry.frames + 1 ≤ R.frames ∧ 8 + (maxLy + 11) + Ry.locals ≤ R.locals) (hsum : (st.map fun v => v.category).sum ≤ 8) (hst : Cond.instanceMethod y ∈ Ts) (hsel : Cond.selects y.cls y y ∈ Ts)
    (k : JW l cl Ns Ts own cc nL ret R (pc + 3) ls (.int r :: st) w1 Q) : JW l cl Ns Ts own cc nL ret R pc ls (v3 :: v2 :: v1 :: .ref b :: st) ws Q :=
  J_callVN (As := [v1, v2, v3]) (rest := st) hd hM he hc hcode hgood hrc hrs hini hli hdy hR rfl hsum hst hsel (fun r0 w hq _ => by obtain ⟨rfl, rfl⟩ := hq; exact k)
theorem J_cVv3N {index maxLy : Nat} {y : MethodName} {bytes : ByteArray} {rety : Option FieldType} {Ry : Room} {host : String} {v1 v2 v3 : Value} {b ci N : Nat} {fs : List Value} {T : u_T} {w1 : jW} (hd : decode cc pc = .ok (.invokevirtual index, 3)) (hM : JMet l cl Ns (.code y bytes maxLy rety :: Ts) y Ry (.ref b :: [v1, v2, v3]) ws (fun v w => v = none ∧ w = w1)) (he : ws[b]? = some (.inr (ci, fs))) (hc : cl[ci]? = some (y.cls, T, N)) (hcode : Cond.code y bytes maxLy rety ∈ Ts) (hgood : ∀ w ∈ Ts, (w.onTables && w.keeps) = true ∨ ∃ ty, w = .arrayClass ty) (hrc : Ry.cells = 0) (hrs : Ry.slots = 0) (hini : Cond.initialized y.cls ∈ Ts) (hli : ((own, index, y, host) : String × Nat × MethodName × String) ∈ Ns) (hdy : y.cls ≠ "java/lang/invoke/MethodHandle" ∧ y.cls ≠ "java/lang/invoke/VarHandle" ∧ (parseMethodDescriptor y.desc).map (fun d => d.parameters.length) = some 3) (hR : Ry.frames + 1 ≤ R.frames ∧ 8 + (maxLy + 11) + Ry.locals ≤ R.locals) (hsum : (st.map fun v => v.category).sum ≤ 8) (hst : Cond.instanceMethod y ∈ Ts) (hsel : Cond.selects y.cls y y ∈ Ts)
    (k : JW l cl Ns Ts own cc nL ret R (pc + 3) ls st w1 Q) : JW l cl Ns Ts own cc nL ret R pc ls (v3 :: v2 :: v1 :: .ref b :: st) ws Q :=
  J_callVN (As := [v1, v2, v3]) (rest := st) hd hM he hc hcode hgood hrc hrs hini hli hdy hR rfl hsum hst hsel (fun r0 w hq _ => by obtain ⟨rfl, rfl⟩ := hq; exact k)
theorem J_topi {x y : Int32} (h : x = y) (k : JW l cl Ns Ts own cc nL ret R pc ls (.int y :: st) ws Q) : JW l cl Ns Ts own cc nL ret R pc ls (.int x :: st) ws Q := by subst h; exact k
theorem J_tabIn {dflt lo hi : Int} {offs : Array Int} {len : Nat} {x : Int32} (k : Int32) {off : Int} {tgt : Nat} (hd : decode cc pc = .ok (.tableswitch dflt lo hi offs, len)) (hk : x = k) (h1 : ¬ k.toInt < lo) (h2 : ¬ hi < k.toInt) (ho : offs[(k.toInt - lo).toNat]? = some off) (ht : (pc : Int) + off = (tgt : Int)) (k : JW l cl Ns Ts own cc nL ret R tgt ls st ws Q) : JW l cl Ns Ts own cc nL ret R pc ls (.int x :: st) ws Q := by subst hk; exact J_tableIn hd h1 h2 ho ht k
end JR
/-! mirrors: guards, steps -/
abbrev jS : Type := Nat → Int32
abbrev jB : Type := Nat → Nat → Int32
def jF : Nat := 4096
def jin (i : Int32) (n : Nat) : Bool := decide (0 ≤ i.toInt) && decide (i.toInt < (n : Int))
theorem jin_in {i : Int32} {n : Nat} (h : jin i n = true) : vp_in i n := by
  rw [vp_in_iff]
  simpa [jin] using h
def jz (i : Int32) : Bool := decide (i = 0) || decide (i = 1)
theorem jz_nar {i : Int32} (h : jz i = true) : narrow .boolean (.int i) = .int i := by
  have h : i = 0 ∨ i = 1 := by simpa [jz] using h
  rcases h with rfl | rfl <;> decide
def jg {α : Type} (b : Bool) (x : Option α) : Option α := match b with
  | true => x
  | false => none
theorem jg_some {α : Type} {b : Bool} {x : Option α} {r : α} (h : jg b x = some r) : b = true ∧ x = some r := by
  cases b with
  | true => exact ⟨rfl, h⟩
  | false => cases h
def jb {α β : Type} (x : Option α) (k : α → Option β) : Option β := match x with
  | some v => k v
  | none => none
theorem jb_some {α β : Type} {x : Option α} {k : α → Option β} {r : β} (h : jb x k = some r) : ∃ v, x = some v ∧ k v = some r := by
  cases x with
  | some v => exact ⟨v, rfl, h⟩
  | none => cases h
def jb2 {β : Type} (x : Option (jS × jB)) (k : jS → jB → Option β) : Option β := match x with
  | some (s, a) => k s a
  | none => none
theorem jb2_some {β : Type} {x : Option (jS × jB)} {k : jS → jB → Option β} {r : β} (h : jb2 x k = some r) : ∃ s a, x = some (s, a) ∧ k s a = some r := by
  cases x with
  | some v => exact ⟨v.1, v.2, rfl, h⟩
  | none => cases h
def jb3 {β : Type} (x : Option (Int32 × jS × jB)) (k : Int32 → jS → jB → Option β) : Option β := match x with
  | some (v, s, a) => k v s a
  | none => none
theorem jb3_some {β : Type} {x : Option (Int32 × jS × jB)} {k : Int32 → jS → jB → Option β} {r : β} (h : jb3 x k = some r) : ∃ v s a, x = some (v, s, a) ∧ k v s a = some r := by
  cases x with
  | some v => exact ⟨v.1, v.2.1, v.2.2, rfl, h⟩
  | none => cases h
theorem j_ifp {α : Type} {c : Prop} [Decidable c] {x y : Option α} {r : α} (hc : c) (h : (if c then x else y) = some r) : x = some r := by rwa [if_pos hc] at h
theorem j_ifn {α : Type} {c : Prop} [Decidable c] {x y : Option α} {r : α} (hc : ¬ c) (h : (if c then x else y) = some r) : y = some r := by rwa [if_neg hc] at h
theorem j_neT {x : Int32} (k : Int32) (h : ¬ x = k) : x.toInt ≠ k.toInt := fun q => h (Int32.toInt_inj.mp q)
theorem j_out2 {x : Int32} (c0 : ¬ x = 0) (c1 : ¬ x = 1) : x.toInt < 0 ∨ (1 : Int) < x.toInt := by
  have h0 : x.toInt ≠ 0 := j_neT 0 c0
  have h1 : x.toInt ≠ 1 := j_neT 1 c1
  omega
theorem j_out3 {x : Int32} (c0 : ¬ x = 0) (c1 : ¬ x = 1) (c2 : ¬ x = 2) : x.toInt < 0 ∨ (2 : Int) < x.toInt := by
  have h0 : x.toInt ≠ 0 := j_neT 0 c0
  have h1 : x.toInt ≠ 1 := j_neT 1 c1
  have h2 : x.toInt ≠ 2 := j_neT 2 c2
  omega
theorem j_out4 {x : Int32} (c0 : ¬ x = 0) (c1 : ¬ x = 1) (c2 : ¬ x = 2) (c3 : ¬ x = 3) : x.toInt < 0 ∨ (3 : Int) < x.toInt := by
  have h0 : x.toInt ≠ 0 := j_neT 0 c0
  have h1 : x.toInt ≠ 1 := j_neT 1 c1
  have h2 : x.toInt ≠ 2 := j_neT 2 c2
  have h3 : x.toInt ≠ 3 := j_neT 3 c3
  omega
theorem j_out5 {x : Int32} (c0 : ¬ x = 0) (c1 : ¬ x = 1) (c2 : ¬ x = 2) (c3 : ¬ x = 3) (c4 : ¬ x = 4) : x.toInt < 0 ∨ (4 : Int) < x.toInt := by
  have h0 : x.toInt ≠ 0 := j_neT 0 c0
  have h1 : x.toInt ≠ 1 := j_neT 1 c1
  have h2 : x.toInt ≠ 2 := j_neT 2 c2
  have h3 : x.toInt ≠ 3 := j_neT 3 c3
  have h4 : x.toInt ≠ 4 := j_neT 4 c4
  omega
theorem j_out6 {x : Int32} (c0 : ¬ x = 0) (c1 : ¬ x = 1) (c2 : ¬ x = 2) (c3 : ¬ x = 3) (c4 : ¬ x = 4) (c5 : ¬ x = 5) : x.toInt < 0 ∨ (5 : Int) < x.toInt := by
  have h0 : x.toInt ≠ 0 := j_neT 0 c0
  have h1 : x.toInt ≠ 1 := j_neT 1 c1
  have h2 : x.toInt ≠ 2 := j_neT 2 c2
  have h3 : x.toInt ≠ 3 := j_neT 3 c3
  have h4 : x.toInt ≠ 4 := j_neT 4 c4
  have h5 : x.toInt ≠ 5 := j_neT 5 c5
  omega
theorem j_out7 {x : Int32} (c0 : ¬ x = 0) (c1 : ¬ x = 1) (c2 : ¬ x = 2) (c3 : ¬ x = 3) (c4 : ¬ x = 4) (c5 : ¬ x = 5) (c6 : ¬ x = 6) : x.toInt < 0 ∨ (6 : Int) < x.toInt := by
  have h0 : x.toInt ≠ 0 := j_neT 0 c0
  have h1 : x.toInt ≠ 1 := j_neT 1 c1
  have h2 : x.toInt ≠ 2 := j_neT 2 c2
  have h3 : x.toInt ≠ 3 := j_neT 3 c3
  have h4 : x.toInt ≠ 4 := j_neT 4 c4
  have h5 : x.toInt ≠ 5 := j_neT 5 c5
  have h6 : x.toInt ≠ 6 := j_neT 6 c6
  omega
theorem j_out8 {x : Int32} (c0 : ¬ x = 0) (c1 : ¬ x = 1) (c2 : ¬ x = 2) (c3 : ¬ x = 3) (c4 : ¬ x = 4) (c5 : ¬ x = 5) (c6 : ¬ x = 6) (c7 : ¬ x = 7) : x.toInt < 0 ∨ (7 : Int) < x.toInt := by
  have h0 : x.toInt ≠ 0 := j_neT 0 c0
  have h1 : x.toInt ≠ 1 := j_neT 1 c1
  have h2 : x.toInt ≠ 2 := j_neT 2 c2
  have h3 : x.toInt ≠ 3 := j_neT 3 c3
  have h4 : x.toInt ≠ 4 := j_neT 4 c4
  have h5 : x.toInt ≠ 5 := j_neT 5 c5
  have h6 : x.toInt ≠ 6 := j_neT 6 c6
  have h7 : x.toInt ≠ 7 := j_neT 7 c7
  omega
theorem j_out17 {x : Int32} (c0 : ¬ x = 0) (c1 : ¬ x = 1) (c2 : ¬ x = 2) (c3 : ¬ x = 3) (c4 : ¬ x = 4) (c5 : ¬ x = 5) (c6 : ¬ x = 6) (c7 : ¬ x = 7) (c8 : ¬ x = 8) (c9 : ¬ x = 9) (c10 : ¬ x = 10) (c11 : ¬ x = 11) (c12 : ¬ x = 12) (c13 : ¬ x = 13) (c14 : ¬ x = 14) (c15 : ¬ x = 15) (c16 : ¬ x = 16) : x.toInt < 0 ∨ (16 : Int) < x.toInt := by
  have h0 : x.toInt ≠ 0 := j_neT 0 c0
  have h1 : x.toInt ≠ 1 := j_neT 1 c1
  have h2 : x.toInt ≠ 2 := j_neT 2 c2
  have h3 : x.toInt ≠ 3 := j_neT 3 c3
  have h4 : x.toInt ≠ 4 := j_neT 4 c4
  have h5 : x.toInt ≠ 5 := j_neT 5 c5
  have h6 : x.toInt ≠ 6 := j_neT 6 c6
  have h7 : x.toInt ≠ 7 := j_neT 7 c7
  have h8 : x.toInt ≠ 8 := j_neT 8 c8
  have h9 : x.toInt ≠ 9 := j_neT 9 c9
  have h10 : x.toInt ≠ 10 := j_neT 10 c10
  have h11 : x.toInt ≠ 11 := j_neT 11 c11
  have h12 : x.toInt ≠ 12 := j_neT 12 c12
  have h13 : x.toInt ≠ 13 := j_neT 13 c13
  have h14 : x.toInt ≠ 14 := j_neT 14 c14
  have h15 : x.toInt ≠ 15 := j_neT 15 c15
  have h16 : x.toInt ≠ 16 := j_neT 16 c16
  omega
end
section
def T_X : u_T := fun k => match k with
  | 0 => ("ClassifySort", "axioms", "LClassifySort$Axioms;", true)
  | 1 => ("ClassifySort", "reasoner", "LClassifySort$Reasoner;", true)
  | 2 => ("ClassifySort", "knowledge", "LClassifySort$Knowledge;", true)
  | 3 => ("ClassifySort", "order", "LClassifySort$Order;", true)
  | 4 => ("ClassifySort", "toldClasses", "[I", true)
  | 5 => ("ClassifySort", "classes", "I", false)
  | 6 => ("ClassifySort", "things", "I", false)
  | 7 => ("ClassifySort", "questions", "I", false)
  | _ => ("ClassifySort", "sorted", "Z", false)
def ty_X : Nat → FieldType := fun k => match k with
  | 0 => .object "ClassifySort$Axioms"
  | 1 => .object "ClassifySort$Reasoner"
  | 2 => .object "ClassifySort$Knowledge"
  | 3 => .object "ClassifySort$Order"
  | 4 => .array .int
  | 5 => .int
  | 6 => .int
  | 7 => .int
  | _ => .boolean
theorem nok_X : ∀ a, a < 9 → ∀ b, b < 9 → a ≠ b → (T_X a).2.1 ≠ (T_X b).2.1 := by decide +kernel
theorem tyok_X : ∀ k, k < 9 → parseFieldDescriptor (T_X k).2.2.1 = some (ty_X k) := by decide +kernel
def T_XA : u_T := fun k => match k with
  | 0 => ("ClassifySort$Axioms", "lefts", "[I", true)
  | 1 => ("ClassifySort$Axioms", "rights", "[I", true)
  | 2 => ("ClassifySort$Axioms", "made", "I", false)
  | _ => ("ClassifySort$Axioms", "there", "I", false)
def ty_XA : Nat → FieldType := fun k => match k with
  | 0 => .array .int
  | 1 => .array .int
  | 2 => .int
  | _ => .int
theorem nok_XA : ∀ a, a < 4 → ∀ b, b < 4 → a ≠ b → (T_XA a).2.1 ≠ (T_XA b).2.1 := by decide +kernel
theorem tyok_XA : ∀ k, k < 4 → parseFieldDescriptor (T_XA k).2.2.1 = some (ty_XA k) := by decide +kernel
def T_XR : u_T := fun k => match k with
  | 0 => ("ClassifySort$Reasoner", "axioms", "LClassifySort$Axioms;", true)
  | 1 => ("ClassifySort$Reasoner", "fired", "[I", true)
  | 2 => ("ClassifySort$Reasoner", "limit", "I", false)
  | 3 => ("ClassifySort$Reasoner", "steps", "I", false)
  | _ => ("ClassifySort$Reasoner", "facts", "I", false)
def ty_XR : Nat → FieldType := fun k => match k with
  | 0 => .object "ClassifySort$Axioms"
  | 1 => .array .int
  | 2 => .int
  | 3 => .int
  | _ => .int
theorem nok_XR : ∀ a, a < 5 → ∀ b, b < 5 → a ≠ b → (T_XR a).2.1 ≠ (T_XR b).2.1 := by decide +kernel
theorem tyok_XR : ∀ k, k < 5 → parseFieldDescriptor (T_XR k).2.2.1 = some (ty_XR k) := by decide +kernel
def T_XK : u_T := fun k => match k with
  | 0 => ("ClassifySort$Knowledge", "above", "[I", true)
  | 1 => ("ClassifySort$Knowledge", "below", "[I", true)
  | 2 => ("ClassifySort$Knowledge", "notAbove", "[I", true)
  | _ => ("ClassifySort$Knowledge", "undecided", "[I", true)
def ty_XK : Nat → FieldType := fun k => match k with
  | 0 => .array .int
  | 1 => .array .int
  | 2 => .array .int
  | _ => .array .int
theorem nok_XK : ∀ a, a < 4 → ∀ b, b < 4 → a ≠ b → (T_XK a).2.1 ≠ (T_XK b).2.1 := by decide +kernel
theorem tyok_XK : ∀ k, k < 4 → parseFieldDescriptor (T_XK k).2.2.1 = some (ty_XK k) := by decide +kernel
def T_XO : u_T := fun k => match k with
  | 0 => ("ClassifySort$Order", "knowledge", "LClassifySort$Knowledge;", true)
  | 1 => ("ClassifySort$Order", "reasoner", "LClassifySort$Reasoner;", true)
  | 2 => ("ClassifySort$Order", "placed", "I", false)
  | 3 => ("ClassifySort$Order", "empties", "I", false)
  | _ => ("ClassifySort$Order", "asked", "I", false)
def ty_XO : Nat → FieldType := fun k => match k with
  | 0 => .object "ClassifySort$Knowledge"
  | 1 => .object "ClassifySort$Reasoner"
  | 2 => .int
  | 3 => .int
  | _ => .int
theorem nok_XO : ∀ a, a < 5 → ∀ b, b < 5 → a ≠ b → (T_XO a).2.1 ≠ (T_XO b).2.1 := by decide +kernel
theorem tyok_XO : ∀ k, k < 5 → parseFieldDescriptor (T_XO k).2.2.1 = some (ty_XO k) := by decide +kernel
def T_M : u_T := fun k => match k with
  | 0 => ("ClassifySortModel", "thrown", "I", false)
  | 1 => ("ClassifySortModel", "classes", "I", false)
  | 2 => ("ClassifySortModel", "things", "I", false)
  | 3 => ("ClassifySortModel", "axioms", "I", false)
  | 4 => ("ClassifySortModel", "fuel", "I", false)
  | 5 => ("ClassifySortModel", "questions", "I", false)
  | 6 => ("ClassifySortModel", "sorted", "Z", false)
  | 7 => ("ClassifySortModel", "left", "[I", true)
  | 8 => ("ClassifySortModel", "other", "[I", true)
  | 9 => ("ClassifySortModel", "right", "[I", true)
  | 10 => ("ClassifySortModel", "there", "[Z", true)
  | 11 => ("ClassifySortModel", "member", "[Z", true)
  | 12 => ("ClassifySortModel", "state", "[I", true)
  | 13 => ("ClassifySortModel", "before", "[I", true)
  | 14 => ("ClassifySortModel", "placed", "[Z", true)
  | 15 => ("ClassifySortModel", "looked", "[Z", true)
  | 16 => ("ClassifySortModel", "fact", "[Z", true)
  | 17 => ("ClassifySortModel", "maker", "[I", true)
  | 18 => ("ClassifySortModel", "fired", "[I", true)
  | 19 => ("ClassifySortModel", "firedCount", "I", false)
  | 20 => ("ClassifySortModel", "needed", "[Z", true)
  | 21 => ("ClassifySortModel", "module", "[Z", true)
  | _ => ("ClassifySortModel", "asked", "I", false)
def ty_M : Nat → FieldType := fun k => match k with
  | 0 => .int
  | 1 => .int
  | 2 => .int
  | 3 => .int
  | 4 => .int
  | 5 => .int
  | 6 => .boolean
  | 7 => .array .int
  | 8 => .array .int
  | 9 => .array .int
  | 10 => .array .boolean
  | 11 => .array .boolean
  | 12 => .array .int
  | 13 => .array .int
  | 14 => .array .boolean
  | 15 => .array .boolean
  | 16 => .array .boolean
  | 17 => .array .int
  | 18 => .array .int
  | 19 => .int
  | 20 => .array .boolean
  | 21 => .array .boolean
  | _ => .int
theorem nok_M : ∀ a, a < 23 → ∀ b, b < 23 → a ≠ b → (T_M a).2.1 ≠ (T_M b).2.1 := by decide +kernel
theorem tyok_M : ∀ k, k < 23 → parseFieldDescriptor (T_M k).2.2.1 = some (ty_M k) := by decide +kernel
abbrev vwCl : List vw_C := [("ClassifySort", T_X, 9), ("ClassifySort$Axioms", T_XA, 4), ("ClassifySort$Reasoner", T_XR, 5), ("ClassifySort$Knowledge", T_XK, 4), ("ClassifySort$Order", T_XO, 5), ("ClassifySortModel", T_M, 23)]
def y_X_class0 : MethodName := ⟨"ClassifySort", "class0", "()I"⟩
theorem dy_X_class0 : y_X_class0.cls ≠ "java/lang/invoke/MethodHandle" ∧ y_X_class0.cls ≠ "java/lang/invoke/VarHandle" ∧ (parseMethodDescriptor y_X_class0.desc).map (fun d => d.parameters.length) = some 0 := by decide +kernel
def y_XK_addClass : MethodName := ⟨"ClassifySort$Knowledge", "addClass", "(I)V"⟩
theorem dy_XK_addClass : y_XK_addClass.cls ≠ "java/lang/invoke/MethodHandle" ∧ y_XK_addClass.cls ≠ "java/lang/invoke/VarHandle" ∧ (parseMethodDescriptor y_XK_addClass.desc).map (fun d => d.parameters.length) = some 1 := by decide +kernel
def y_X_bit : MethodName := ⟨"ClassifySort", "bit", "(I)I"⟩
theorem dy_X_bit : y_X_bit.cls ≠ "java/lang/invoke/MethodHandle" ∧ y_X_bit.cls ≠ "java/lang/invoke/VarHandle" ∧ (parseMethodDescriptor y_X_bit.desc).map (fun d => d.parameters.length) = some 1 := by decide +kernel
def y_XK_tellYes : MethodName := ⟨"ClassifySort$Knowledge", "tellYes", "(II)V"⟩
theorem dy_XK_tellYes : y_XK_tellYes.cls ≠ "java/lang/invoke/MethodHandle" ∧ y_XK_tellYes.cls ≠ "java/lang/invoke/VarHandle" ∧ (parseMethodDescriptor y_XK_tellYes.desc).map (fun d => d.parameters.length) = some 2 := by decide +kernel
def y_X_has : MethodName := ⟨"ClassifySort", "has", "(II)Z"⟩
theorem dy_X_has : y_X_has.cls ≠ "java/lang/invoke/MethodHandle" ∧ y_X_has.cls ≠ "java/lang/invoke/VarHandle" ∧ (parseMethodDescriptor y_X_has.desc).map (fun d => d.parameters.length) = some 2 := by decide +kernel
def y_XK_close : MethodName := ⟨"ClassifySort$Knowledge", "close", "()V"⟩
theorem dy_XK_close : y_XK_close.cls ≠ "java/lang/invoke/MethodHandle" ∧ y_XK_close.cls ≠ "java/lang/invoke/VarHandle" ∧ (parseMethodDescriptor y_XK_close.desc).map (fun d => d.parameters.length) = some 0 := by decide +kernel
def y_XK_union : MethodName := ⟨"ClassifySort$Knowledge", "union", "([II)I"⟩
theorem dy_XK_union : y_XK_union.cls ≠ "java/lang/invoke/MethodHandle" ∧ y_XK_union.cls ≠ "java/lang/invoke/VarHandle" ∧ (parseMethodDescriptor y_XK_union.desc).map (fun d => d.parameters.length) = some 2 := by decide +kernel
def y_X_thing : MethodName := ⟨"ClassifySort", "thing", "()I"⟩
theorem dy_X_thing : y_X_thing.cls ≠ "java/lang/invoke/MethodHandle" ∧ y_X_thing.cls ≠ "java/lang/invoke/VarHandle" ∧ (parseMethodDescriptor y_X_thing.desc).map (fun d => d.parameters.length) = some 0 := by decide +kernel
def y_X_axiom : MethodName := ⟨"ClassifySort", "axiom", "(III)I"⟩
theorem dy_X_axiom : y_X_axiom.cls ≠ "java/lang/invoke/MethodHandle" ∧ y_X_axiom.cls ≠ "java/lang/invoke/VarHandle" ∧ (parseMethodDescriptor y_X_axiom.desc).map (fun d => d.parameters.length) = some 3 := by decide +kernel
def y_X_isClass : MethodName := ⟨"ClassifySort", "isClass", "(I)Z"⟩
theorem dy_X_isClass : y_X_isClass.cls ≠ "java/lang/invoke/MethodHandle" ∧ y_X_isClass.cls ≠ "java/lang/invoke/VarHandle" ∧ (parseMethodDescriptor y_X_isClass.desc).map (fun d => d.parameters.length) = some 1 := by decide +kernel
def y_X_isGoal : MethodName := ⟨"ClassifySort", "isGoal", "(I)Z"⟩
theorem dy_X_isGoal : y_X_isGoal.cls ≠ "java/lang/invoke/MethodHandle" ∧ y_X_isGoal.cls ≠ "java/lang/invoke/VarHandle" ∧ (parseMethodDescriptor y_X_isGoal.desc).map (fun d => d.parameters.length) = some 1 := by decide +kernel
def y_XA_isFull : MethodName := ⟨"ClassifySort$Axioms", "isFull", "()Z"⟩
theorem dy_XA_isFull : y_XA_isFull.cls ≠ "java/lang/invoke/MethodHandle" ∧ y_XA_isFull.cls ≠ "java/lang/invoke/VarHandle" ∧ (parseMethodDescriptor y_XA_isFull.desc).map (fun d => d.parameters.length) = some 0 := by decide +kernel
def y_X_slot : MethodName := ⟨"ClassifySort", "slot", "(I)I"⟩
theorem dy_X_slot : y_X_slot.cls ≠ "java/lang/invoke/MethodHandle" ∧ y_X_slot.cls ≠ "java/lang/invoke/VarHandle" ∧ (parseMethodDescriptor y_X_slot.desc).map (fun d => d.parameters.length) = some 1 := by decide +kernel
def y_XA_add : MethodName := ⟨"ClassifySort$Axioms", "add", "(II)I"⟩
theorem dy_XA_add : y_XA_add.cls ≠ "java/lang/invoke/MethodHandle" ∧ y_XA_add.cls ≠ "java/lang/invoke/VarHandle" ∧ (parseMethodDescriptor y_XA_add.desc).map (fun d => d.parameters.length) = some 2 := by decide +kernel
def y_XA_touchedBy : MethodName := ⟨"ClassifySort$Axioms", "touchedBy", "(I)I"⟩
theorem dy_XA_touchedBy : y_XA_touchedBy.cls ≠ "java/lang/invoke/MethodHandle" ∧ y_XA_touchedBy.cls ≠ "java/lang/invoke/VarHandle" ∧ (parseMethodDescriptor y_XA_touchedBy.desc).map (fun d => d.parameters.length) = some 1 := by decide +kernel
def y_XA_leftOf : MethodName := ⟨"ClassifySort$Axioms", "leftOf", "(I)I"⟩
theorem dy_XA_leftOf : y_XA_leftOf.cls ≠ "java/lang/invoke/MethodHandle" ∧ y_XA_leftOf.cls ≠ "java/lang/invoke/VarHandle" ∧ (parseMethodDescriptor y_XA_leftOf.desc).map (fun d => d.parameters.length) = some 1 := by decide +kernel
def y_XK_forgetNo : MethodName := ⟨"ClassifySort$Knowledge", "forgetNo", "(I)V"⟩
theorem dy_XK_forgetNo : y_XK_forgetNo.cls ≠ "java/lang/invoke/MethodHandle" ∧ y_XK_forgetNo.cls ≠ "java/lang/invoke/VarHandle" ∧ (parseMethodDescriptor y_XK_forgetNo.desc).map (fun d => d.parameters.length) = some 1 := by decide +kernel
def y_X_tellAxioms : MethodName := ⟨"ClassifySort", "tellAxioms", "()V"⟩
theorem dy_X_tellAxioms : y_X_tellAxioms.cls ≠ "java/lang/invoke/MethodHandle" ∧ y_X_tellAxioms.cls ≠ "java/lang/invoke/VarHandle" ∧ (parseMethodDescriptor y_X_tellAxioms.desc).map (fun d => d.parameters.length) = some 0 := by decide +kernel
def y_JI_bitCount : MethodName := ⟨"java/lang/Integer", "bitCount", "(I)I"⟩
theorem dy_JI_bitCount : y_JI_bitCount.cls ≠ "java/lang/invoke/MethodHandle" ∧ y_JI_bitCount.cls ≠ "java/lang/invoke/VarHandle" ∧ (parseMethodDescriptor y_JI_bitCount.desc).map (fun d => d.parameters.length) = some 1 := by decide +kernel
def y_JI_numberOfTrailingZeros : MethodName := ⟨"java/lang/Integer", "numberOfTrailingZeros", "(I)I"⟩
theorem dy_JI_numberOfTrailingZeros : y_JI_numberOfTrailingZeros.cls ≠ "java/lang/invoke/MethodHandle" ∧ y_JI_numberOfTrailingZeros.cls ≠ "java/lang/invoke/VarHandle" ∧ (parseMethodDescriptor y_JI_numberOfTrailingZeros.desc).map (fun d => d.parameters.length) = some 1 := by decide +kernel
def y_XA_rightOf : MethodName := ⟨"ClassifySort$Axioms", "rightOf", "(I)I"⟩
theorem dy_XA_rightOf : y_XA_rightOf.cls ≠ "java/lang/invoke/MethodHandle" ∧ y_XA_rightOf.cls ≠ "java/lang/invoke/VarHandle" ∧ (parseMethodDescriptor y_XA_rightOf.desc).map (fun d => d.parameters.length) = some 1 := by decide +kernel
def y_X_remove : MethodName := ⟨"ClassifySort", "remove", "(I)I"⟩
theorem dy_X_remove : y_X_remove.cls ≠ "java/lang/invoke/MethodHandle" ∧ y_X_remove.cls ≠ "java/lang/invoke/VarHandle" ∧ (parseMethodDescriptor y_X_remove.desc).map (fun d => d.parameters.length) = some 1 := by decide +kernel
def y_XA_isThere : MethodName := ⟨"ClassifySort$Axioms", "isThere", "(I)Z"⟩
theorem dy_XA_isThere : y_XA_isThere.cls ≠ "java/lang/invoke/MethodHandle" ∧ y_XA_isThere.cls ≠ "java/lang/invoke/VarHandle" ∧ (parseMethodDescriptor y_XA_isThere.desc).map (fun d => d.parameters.length) = some 1 := by decide +kernel
def y_XK_knownPairs : MethodName := ⟨"ClassifySort$Knowledge", "knownPairs", "(I)I"⟩
theorem dy_XK_knownPairs : y_XK_knownPairs.cls ≠ "java/lang/invoke/MethodHandle" ∧ y_XK_knownPairs.cls ≠ "java/lang/invoke/VarHandle" ∧ (parseMethodDescriptor y_XK_knownPairs.desc).map (fun d => d.parameters.length) = some 1 := by decide +kernel
def y_XA_drop : MethodName := ⟨"ClassifySort$Axioms", "drop", "(I)V"⟩
theorem dy_XA_drop : y_XA_drop.cls ≠ "java/lang/invoke/MethodHandle" ∧ y_XA_drop.cls ≠ "java/lang/invoke/VarHandle" ∧ (parseMethodDescriptor y_XA_drop.desc).map (fun d => d.parameters.length) = some 1 := by decide +kernel
def y_XK_forgetYes : MethodName := ⟨"ClassifySort$Knowledge", "forgetYes", "(I)V"⟩
theorem dy_XK_forgetYes : y_XK_forgetYes.cls ≠ "java/lang/invoke/MethodHandle" ∧ y_XK_forgetYes.cls ≠ "java/lang/invoke/VarHandle" ∧ (parseMethodDescriptor y_XK_forgetYes.desc).map (fun d => d.parameters.length) = some 1 := by decide +kernel
def y_X_fuel : MethodName := ⟨"ClassifySort", "fuel", "(I)I"⟩
theorem dy_X_fuel : y_X_fuel.cls ≠ "java/lang/invoke/MethodHandle" ∧ y_X_fuel.cls ≠ "java/lang/invoke/VarHandle" ∧ (parseMethodDescriptor y_X_fuel.desc).map (fun d => d.parameters.length) = some 1 := by decide +kernel
def y_XK_openPairs : MethodName := ⟨"ClassifySort$Knowledge", "openPairs", "(I)I"⟩
theorem dy_XK_openPairs : y_XK_openPairs.cls ≠ "java/lang/invoke/MethodHandle" ∧ y_XK_openPairs.cls ≠ "java/lang/invoke/VarHandle" ∧ (parseMethodDescriptor y_XK_openPairs.desc).map (fun d => d.parameters.length) = some 1 := by decide +kernel
def y_XR_fillUp : MethodName := ⟨"ClassifySort$Reasoner", "fillUp", "(I)V"⟩
theorem dy_XR_fillUp : y_XR_fillUp.cls ≠ "java/lang/invoke/MethodHandle" ∧ y_XR_fillUp.cls ≠ "java/lang/invoke/VarHandle" ∧ (parseMethodDescriptor y_XR_fillUp.desc).map (fun d => d.parameters.length) = some 1 := by decide +kernel
def y_XK_forgetOpen : MethodName := ⟨"ClassifySort$Knowledge", "forgetOpen", "()V"⟩
theorem dy_XK_forgetOpen : y_XK_forgetOpen.cls ≠ "java/lang/invoke/MethodHandle" ∧ y_XK_forgetOpen.cls ≠ "java/lang/invoke/VarHandle" ∧ (parseMethodDescriptor y_XK_forgetOpen.desc).map (fun d => d.parameters.length) = some 0 := by decide +kernel
def y_X_known : MethodName := ⟨"ClassifySort", "known", "(II)I"⟩
theorem dy_X_known : y_X_known.cls ≠ "java/lang/invoke/MethodHandle" ∧ y_X_known.cls ≠ "java/lang/invoke/VarHandle" ∧ (parseMethodDescriptor y_X_known.desc).map (fun d => d.parameters.length) = some 2 := by decide +kernel
def y_XK_of : MethodName := ⟨"ClassifySort$Knowledge", "of", "(II)I"⟩
theorem dy_XK_of : y_XK_of.cls ≠ "java/lang/invoke/MethodHandle" ∧ y_XK_of.cls ≠ "java/lang/invoke/VarHandle" ∧ (parseMethodDescriptor y_XK_of.desc).map (fun d => d.parameters.length) = some 2 := by decide +kernel
def y_X_ask : MethodName := ⟨"ClassifySort", "ask", "(II)I"⟩
theorem dy_X_ask : y_X_ask.cls ≠ "java/lang/invoke/MethodHandle" ∧ y_X_ask.cls ≠ "java/lang/invoke/VarHandle" ∧ (parseMethodDescriptor y_X_ask.desc).map (fun d => d.parameters.length) = some 2 := by decide +kernel
def y_XR_decide : MethodName := ⟨"ClassifySort$Reasoner", "decide", "(II)I"⟩
theorem dy_XR_decide : y_XR_decide.cls ≠ "java/lang/invoke/MethodHandle" ∧ y_XR_decide.cls ≠ "java/lang/invoke/VarHandle" ∧ (parseMethodDescriptor y_XR_decide.desc).map (fun d => d.parameters.length) = some 2 := by decide +kernel
def y_XA_firstThatFires : MethodName := ⟨"ClassifySort$Axioms", "firstThatFires", "(I)I"⟩
theorem dy_XA_firstThatFires : y_XA_firstThatFires.cls ≠ "java/lang/invoke/MethodHandle" ∧ y_XA_firstThatFires.cls ≠ "java/lang/invoke/VarHandle" ∧ (parseMethodDescriptor y_XA_firstThatFires.desc).map (fun d => d.parameters.length) = some 1 := by decide +kernel
def y_X_run : MethodName := ⟨"ClassifySort", "run", "()I"⟩
theorem dy_X_run : y_X_run.cls ≠ "java/lang/invoke/MethodHandle" ∧ y_X_run.cls ≠ "java/lang/invoke/VarHandle" ∧ (parseMethodDescriptor y_X_run.desc).map (fun d => d.parameters.length) = some 0 := by decide +kernel
def y_XO_sort : MethodName := ⟨"ClassifySort$Order", "sort", "(I)I"⟩
theorem dy_XO_sort : y_XO_sort.cls ≠ "java/lang/invoke/MethodHandle" ∧ y_XO_sort.cls ≠ "java/lang/invoke/VarHandle" ∧ (parseMethodDescriptor y_XO_sort.desc).map (fun d => d.parameters.length) = some 1 := by decide +kernel
def y_XO_answer : MethodName := ⟨"ClassifySort$Order", "answer", "(II)I"⟩
theorem dy_XO_answer : y_XO_answer.cls ≠ "java/lang/invoke/MethodHandle" ∧ y_XO_answer.cls ≠ "java/lang/invoke/VarHandle" ∧ (parseMethodDescriptor y_XO_answer.desc).map (fun d => d.parameters.length) = some 2 := by decide +kernel
def y_XK_learn : MethodName := ⟨"ClassifySort$Knowledge", "learn", "(III)V"⟩
theorem dy_XK_learn : y_XK_learn.cls ≠ "java/lang/invoke/MethodHandle" ∧ y_XK_learn.cls ≠ "java/lang/invoke/VarHandle" ∧ (parseMethodDescriptor y_XK_learn.desc).map (fun d => d.parameters.length) = some 3 := by decide +kernel
def y_XO_searchDown : MethodName := ⟨"ClassifySort$Order", "searchDown", "(I)V"⟩
theorem dy_XO_searchDown : y_XO_searchDown.cls ≠ "java/lang/invoke/MethodHandle" ∧ y_XO_searchDown.cls ≠ "java/lang/invoke/VarHandle" ∧ (parseMethodDescriptor y_XO_searchDown.desc).map (fun d => d.parameters.length) = some 1 := by decide +kernel
def y_XO_nextDown : MethodName := ⟨"ClassifySort$Order", "nextDown", "(II)I"⟩
theorem dy_XO_nextDown : y_XO_nextDown.cls ≠ "java/lang/invoke/MethodHandle" ∧ y_XO_nextDown.cls ≠ "java/lang/invoke/VarHandle" ∧ (parseMethodDescriptor y_XO_nextDown.desc).map (fun d => d.parameters.length) = some 2 := by decide +kernel
def y_XK_allAbove : MethodName := ⟨"ClassifySort$Knowledge", "allAbove", "(I)I"⟩
theorem dy_XK_allAbove : y_XK_allAbove.cls ≠ "java/lang/invoke/MethodHandle" ∧ y_XK_allAbove.cls ≠ "java/lang/invoke/VarHandle" ∧ (parseMethodDescriptor y_XK_allAbove.desc).map (fun d => d.parameters.length) = some 1 := by decide +kernel
def y_XK_strictlyAbove : MethodName := ⟨"ClassifySort$Knowledge", "strictlyAbove", "(I)I"⟩
theorem dy_XK_strictlyAbove : y_XK_strictlyAbove.cls ≠ "java/lang/invoke/MethodHandle" ∧ y_XK_strictlyAbove.cls ≠ "java/lang/invoke/VarHandle" ∧ (parseMethodDescriptor y_XK_strictlyAbove.desc).map (fun d => d.parameters.length) = some 1 := by decide +kernel
def y_XO_searchUp : MethodName := ⟨"ClassifySort$Order", "searchUp", "(I)V"⟩
theorem dy_XO_searchUp : y_XO_searchUp.cls ≠ "java/lang/invoke/MethodHandle" ∧ y_XO_searchUp.cls ≠ "java/lang/invoke/VarHandle" ∧ (parseMethodDescriptor y_XO_searchUp.desc).map (fun d => d.parameters.length) = some 1 := by decide +kernel
def y_XO_nextUp : MethodName := ⟨"ClassifySort$Order", "nextUp", "(II)I"⟩
theorem dy_XO_nextUp : y_XO_nextUp.cls ≠ "java/lang/invoke/MethodHandle" ∧ y_XO_nextUp.cls ≠ "java/lang/invoke/VarHandle" ∧ (parseMethodDescriptor y_XO_nextUp.desc).map (fun d => d.parameters.length) = some 2 := by decide +kernel
def y_XK_allBelow : MethodName := ⟨"ClassifySort$Knowledge", "allBelow", "(I)I"⟩
theorem dy_XK_allBelow : y_XK_allBelow.cls ≠ "java/lang/invoke/MethodHandle" ∧ y_XK_allBelow.cls ≠ "java/lang/invoke/VarHandle" ∧ (parseMethodDescriptor y_XK_allBelow.desc).map (fun d => d.parameters.length) = some 1 := by decide +kernel
def y_XK_strictlyBelow : MethodName := ⟨"ClassifySort$Knowledge", "strictlyBelow", "(I)I"⟩
theorem dy_XK_strictlyBelow : y_XK_strictlyBelow.cls ≠ "java/lang/invoke/MethodHandle" ∧ y_XK_strictlyBelow.cls ≠ "java/lang/invoke/VarHandle" ∧ (parseMethodDescriptor y_XK_strictlyBelow.desc).map (fun d => d.parameters.length) = some 1 := by decide +kernel
def y_X_parent : MethodName := ⟨"ClassifySort", "parent", "(II)I"⟩
theorem dy_X_parent : y_X_parent.cls ≠ "java/lang/invoke/MethodHandle" ∧ y_X_parent.cls ≠ "java/lang/invoke/VarHandle" ∧ (parseMethodDescriptor y_X_parent.desc).map (fun d => d.parameters.length) = some 2 := by decide +kernel
def y_XO_isEmptyClass : MethodName := ⟨"ClassifySort$Order", "isEmptyClass", "(I)Z"⟩
theorem dy_XO_isEmptyClass : y_XO_isEmptyClass.cls ≠ "java/lang/invoke/MethodHandle" ∧ y_XO_isEmptyClass.cls ≠ "java/lang/invoke/VarHandle" ∧ (parseMethodDescriptor y_XO_isEmptyClass.desc).map (fun d => d.parameters.length) = some 1 := by decide +kernel
def y_XO_firstOfSame : MethodName := ⟨"ClassifySort$Order", "firstOfSame", "(I)I"⟩
theorem dy_XO_firstOfSame : y_XO_firstOfSame.cls ≠ "java/lang/invoke/MethodHandle" ∧ y_XO_firstOfSame.cls ≠ "java/lang/invoke/VarHandle" ∧ (parseMethodDescriptor y_XO_firstOfSame.desc).map (fun d => d.parameters.length) = some 1 := by decide +kernel
def y_XK_sameAs : MethodName := ⟨"ClassifySort$Knowledge", "sameAs", "(I)I"⟩
theorem dy_XK_sameAs : y_XK_sameAs.cls ≠ "java/lang/invoke/MethodHandle" ∧ y_XK_sameAs.cls ≠ "java/lang/invoke/VarHandle" ∧ (parseMethodDescriptor y_XK_sameAs.desc).map (fun d => d.parameters.length) = some 1 := by decide +kernel
def y_X_pick : MethodName := ⟨"ClassifySort", "pick", "(II)I"⟩
theorem dy_X_pick : y_X_pick.cls ≠ "java/lang/invoke/MethodHandle" ∧ y_X_pick.cls ≠ "java/lang/invoke/VarHandle" ∧ (parseMethodDescriptor y_X_pick.desc).map (fun d => d.parameters.length) = some 2 := by decide +kernel
def y_XO_directlyAbove : MethodName := ⟨"ClassifySort$Order", "directlyAbove", "(I)I"⟩
theorem dy_XO_directlyAbove : y_XO_directlyAbove.cls ≠ "java/lang/invoke/MethodHandle" ∧ y_XO_directlyAbove.cls ≠ "java/lang/invoke/VarHandle" ∧ (parseMethodDescriptor y_XO_directlyAbove.desc).map (fun d => d.parameters.length) = some 1 := by decide +kernel
def y_XO_lowest : MethodName := ⟨"ClassifySort$Order", "lowest", "()I"⟩
theorem dy_XO_lowest : y_XO_lowest.cls ≠ "java/lang/invoke/MethodHandle" ∧ y_XO_lowest.cls ≠ "java/lang/invoke/VarHandle" ∧ (parseMethodDescriptor y_XO_lowest.desc).map (fun d => d.parameters.length) = some 0 := by decide +kernel
def y_XO_lowestAmong : MethodName := ⟨"ClassifySort$Order", "lowestAmong", "(I)I"⟩
theorem dy_XO_lowestAmong : y_XO_lowestAmong.cls ≠ "java/lang/invoke/MethodHandle" ∧ y_XO_lowestAmong.cls ≠ "java/lang/invoke/VarHandle" ∧ (parseMethodDescriptor y_XO_lowestAmong.desc).map (fun d => d.parameters.length) = some 1 := by decide +kernel
def y_XO_directlyBelow : MethodName := ⟨"ClassifySort$Order", "directlyBelow", "(I)I"⟩
theorem dy_XO_directlyBelow : y_XO_directlyBelow.cls ≠ "java/lang/invoke/MethodHandle" ∧ y_XO_directlyBelow.cls ≠ "java/lang/invoke/VarHandle" ∧ (parseMethodDescriptor y_XO_directlyBelow.desc).map (fun d => d.parameters.length) = some 1 := by decide +kernel
def y_X_child : MethodName := ⟨"ClassifySort", "child", "(II)I"⟩
theorem dy_X_child : y_X_child.cls ≠ "java/lang/invoke/MethodHandle" ∧ y_X_child.cls ≠ "java/lang/invoke/VarHandle" ∧ (parseMethodDescriptor y_X_child.desc).map (fun d => d.parameters.length) = some 2 := by decide +kernel
def y_X_equal : MethodName := ⟨"ClassifySort", "equal", "(II)I"⟩
theorem dy_X_equal : y_X_equal.cls ≠ "java/lang/invoke/MethodHandle" ∧ y_X_equal.cls ≠ "java/lang/invoke/VarHandle" ∧ (parseMethodDescriptor y_X_equal.desc).map (fun d => d.parameters.length) = some 2 := by decide +kernel
def y_X_empty : MethodName := ⟨"ClassifySort", "empty", "(I)I"⟩
theorem dy_X_empty : y_X_empty.cls ≠ "java/lang/invoke/MethodHandle" ∧ y_X_empty.cls ≠ "java/lang/invoke/VarHandle" ∧ (parseMethodDescriptor y_X_empty.desc).map (fun d => d.parameters.length) = some 1 := by decide +kernel
def y_XO_emptyClasses : MethodName := ⟨"ClassifySort$Order", "emptyClasses", "()I"⟩
theorem dy_XO_emptyClasses : y_XO_emptyClasses.cls ≠ "java/lang/invoke/MethodHandle" ∧ y_XO_emptyClasses.cls ≠ "java/lang/invoke/VarHandle" ∧ (parseMethodDescriptor y_XO_emptyClasses.desc).map (fun d => d.parameters.length) = some 0 := by decide +kernel
def y_X_open : MethodName := ⟨"ClassifySort", "open", "(I)I"⟩
theorem dy_X_open : y_X_open.cls ≠ "java/lang/invoke/MethodHandle" ∧ y_X_open.cls ≠ "java/lang/invoke/VarHandle" ∧ (parseMethodDescriptor y_X_open.desc).map (fun d => d.parameters.length) = some 1 := by decide +kernel
def y_XK_openOf : MethodName := ⟨"ClassifySort$Knowledge", "openOf", "(I)I"⟩
theorem dy_XK_openOf : y_XK_openOf.cls ≠ "java/lang/invoke/MethodHandle" ∧ y_XK_openOf.cls ≠ "java/lang/invoke/VarHandle" ∧ (parseMethodDescriptor y_XK_openOf.desc).map (fun d => d.parameters.length) = some 1 := by decide +kernel
def y_X_put : MethodName := ⟨"ClassifySort", "put", "(II)I"⟩
theorem dy_X_put : y_X_put.cls ≠ "java/lang/invoke/MethodHandle" ∧ y_X_put.cls ≠ "java/lang/invoke/VarHandle" ∧ (parseMethodDescriptor y_X_put.desc).map (fun d => d.parameters.length) = some 2 := by decide +kernel
def y_X_isThing : MethodName := ⟨"ClassifySort", "isThing", "(I)Z"⟩
theorem dy_X_isThing : y_X_isThing.cls ≠ "java/lang/invoke/MethodHandle" ∧ y_X_isThing.cls ≠ "java/lang/invoke/VarHandle" ∧ (parseMethodDescriptor y_X_isThing.desc).map (fun d => d.parameters.length) = some 1 := by decide +kernel
def y_X_type : MethodName := ⟨"ClassifySort", "type", "(II)I"⟩
theorem dy_X_type : y_X_type.cls ≠ "java/lang/invoke/MethodHandle" ∧ y_X_type.cls ≠ "java/lang/invoke/VarHandle" ∧ (parseMethodDescriptor y_X_type.desc).map (fun d => d.parameters.length) = some 2 := by decide +kernel
def y_XR_facts : MethodName := ⟨"ClassifySort$Reasoner", "facts", "()I"⟩
theorem dy_XR_facts : y_XR_facts.cls ≠ "java/lang/invoke/MethodHandle" ∧ y_XR_facts.cls ≠ "java/lang/invoke/VarHandle" ∧ (parseMethodDescriptor y_XR_facts.desc).map (fun d => d.parameters.length) = some 0 := by decide +kernel
def y_X_trace : MethodName := ⟨"ClassifySort", "trace", "(III)I"⟩
theorem dy_X_trace : y_X_trace.cls ≠ "java/lang/invoke/MethodHandle" ∧ y_X_trace.cls ≠ "java/lang/invoke/VarHandle" ∧ (parseMethodDescriptor y_X_trace.desc).map (fun d => d.parameters.length) = some 3 := by decide +kernel
def y_XR_neededSteps : MethodName := ⟨"ClassifySort$Reasoner", "neededSteps", "()I"⟩
theorem dy_XR_neededSteps : y_XR_neededSteps.cls ≠ "java/lang/invoke/MethodHandle" ∧ y_XR_neededSteps.cls ≠ "java/lang/invoke/VarHandle" ∧ (parseMethodDescriptor y_XR_neededSteps.desc).map (fun d => d.parameters.length) = some 0 := by decide +kernel
def y_XR_firedAt : MethodName := ⟨"ClassifySort$Reasoner", "firedAt", "(I)I"⟩
theorem dy_XR_firedAt : y_XR_firedAt.cls ≠ "java/lang/invoke/MethodHandle" ∧ y_XR_firedAt.cls ≠ "java/lang/invoke/VarHandle" ∧ (parseMethodDescriptor y_XR_firedAt.desc).map (fun d => d.parameters.length) = some 1 := by decide +kernel
def y_X_count : MethodName := ⟨"ClassifySort", "count", "(I)I"⟩
theorem dy_X_count : y_X_count.cls ≠ "java/lang/invoke/MethodHandle" ∧ y_X_count.cls ≠ "java/lang/invoke/VarHandle" ∧ (parseMethodDescriptor y_X_count.desc).map (fun d => d.parameters.length) = some 1 := by decide +kernel
def y_XA_thereNow : MethodName := ⟨"ClassifySort$Axioms", "thereNow", "()I"⟩
theorem dy_XA_thereNow : y_XA_thereNow.cls ≠ "java/lang/invoke/MethodHandle" ∧ y_XA_thereNow.cls ≠ "java/lang/invoke/VarHandle" ∧ (parseMethodDescriptor y_XA_thereNow.desc).map (fun d => d.parameters.length) = some 0 := by decide +kernel
def y_XO_placedClasses : MethodName := ⟨"ClassifySort$Order", "placedClasses", "()I"⟩
theorem dy_XO_placedClasses : y_XO_placedClasses.cls ≠ "java/lang/invoke/MethodHandle" ∧ y_XO_placedClasses.cls ≠ "java/lang/invoke/VarHandle" ∧ (parseMethodDescriptor y_XO_placedClasses.desc).map (fun d => d.parameters.length) = some 0 := by decide +kernel
def y_M_class0 : MethodName := ⟨"ClassifySortModel", "class0", "()I"⟩
theorem dy_M_class0 : y_M_class0.cls ≠ "java/lang/invoke/MethodHandle" ∧ y_M_class0.cls ≠ "java/lang/invoke/VarHandle" ∧ (parseMethodDescriptor y_M_class0.desc).map (fun d => d.parameters.length) = some 0 := by decide +kernel
def y_M_close : MethodName := ⟨"ClassifySortModel", "close", "()V"⟩
theorem dy_M_close : y_M_close.cls ≠ "java/lang/invoke/MethodHandle" ∧ y_M_close.cls ≠ "java/lang/invoke/VarHandle" ∧ (parseMethodDescriptor y_M_close.desc).map (fun d => d.parameters.length) = some 0 := by decide +kernel
def y_M_tellItself : MethodName := ⟨"ClassifySortModel", "tellItself", "()V"⟩
theorem dy_M_tellItself : y_M_tellItself.cls ≠ "java/lang/invoke/MethodHandle" ∧ y_M_tellItself.cls ≠ "java/lang/invoke/VarHandle" ∧ (parseMethodDescriptor y_M_tellItself.desc).map (fun d => d.parameters.length) = some 0 := by decide +kernel
def y_M_isItself : MethodName := ⟨"ClassifySortModel", "isItself", "(II)Z"⟩
theorem dy_M_isItself : y_M_isItself.cls ≠ "java/lang/invoke/MethodHandle" ∧ y_M_isItself.cls ≠ "java/lang/invoke/VarHandle" ∧ (parseMethodDescriptor y_M_isItself.desc).map (fun d => d.parameters.length) = some 2 := by decide +kernel
def y_M_closeOnce : MethodName := ⟨"ClassifySortModel", "closeOnce", "()Z"⟩
theorem dy_M_closeOnce : y_M_closeOnce.cls ≠ "java/lang/invoke/MethodHandle" ∧ y_M_closeOnce.cls ≠ "java/lang/invoke/VarHandle" ∧ (parseMethodDescriptor y_M_closeOnce.desc).map (fun d => d.parameters.length) = some 0 := by decide +kernel
def y_M_isHere : MethodName := ⟨"ClassifySortModel", "isHere", "(I)Z"⟩
theorem dy_M_isHere : y_M_isHere.cls ≠ "java/lang/invoke/MethodHandle" ∧ y_M_isHere.cls ≠ "java/lang/invoke/VarHandle" ∧ (parseMethodDescriptor y_M_isHere.desc).map (fun d => d.parameters.length) = some 1 := by decide +kernel
def y_M_below : MethodName := ⟨"ClassifySortModel", "below", "(II)Z"⟩
theorem dy_M_below : y_M_below.cls ≠ "java/lang/invoke/MethodHandle" ∧ y_M_below.cls ≠ "java/lang/invoke/VarHandle" ∧ (parseMethodDescriptor y_M_below.desc).map (fun d => d.parameters.length) = some 2 := by decide +kernel
def y_M_spreadNo : MethodName := ⟨"ClassifySortModel", "spreadNo", "(II)Z"⟩
theorem dy_M_spreadNo : y_M_spreadNo.cls ≠ "java/lang/invoke/MethodHandle" ∧ y_M_spreadNo.cls ≠ "java/lang/invoke/VarHandle" ∧ (parseMethodDescriptor y_M_spreadNo.desc).map (fun d => d.parameters.length) = some 2 := by decide +kernel
def y_M_thing : MethodName := ⟨"ClassifySortModel", "thing", "()I"⟩
theorem dy_M_thing : y_M_thing.cls ≠ "java/lang/invoke/MethodHandle" ∧ y_M_thing.cls ≠ "java/lang/invoke/VarHandle" ∧ (parseMethodDescriptor y_M_thing.desc).map (fun d => d.parameters.length) = some 0 := by decide +kernel
def y_M_axiom : MethodName := ⟨"ClassifySortModel", "axiom", "(III)I"⟩
theorem dy_M_axiom : y_M_axiom.cls ≠ "java/lang/invoke/MethodHandle" ∧ y_M_axiom.cls ≠ "java/lang/invoke/VarHandle" ∧ (parseMethodDescriptor y_M_axiom.desc).map (fun d => d.parameters.length) = some 3 := by decide +kernel
def y_M_isClass : MethodName := ⟨"ClassifySortModel", "isClass", "(I)Z"⟩
theorem dy_M_isClass : y_M_isClass.cls ≠ "java/lang/invoke/MethodHandle" ∧ y_M_isClass.cls ≠ "java/lang/invoke/VarHandle" ∧ (parseMethodDescriptor y_M_isClass.desc).map (fun d => d.parameters.length) = some 1 := by decide +kernel
def y_M_forget : MethodName := ⟨"ClassifySortModel", "forget", "(II)V"⟩
theorem dy_M_forget : y_M_forget.cls ≠ "java/lang/invoke/MethodHandle" ∧ y_M_forget.cls ≠ "java/lang/invoke/VarHandle" ∧ (parseMethodDescriptor y_M_forget.desc).map (fun d => d.parameters.length) = some 2 := by decide +kernel
def y_M_isTouched : MethodName := ⟨"ClassifySortModel", "isTouched", "(II)Z"⟩
theorem dy_M_isTouched : y_M_isTouched.cls ≠ "java/lang/invoke/MethodHandle" ∧ y_M_isTouched.cls ≠ "java/lang/invoke/VarHandle" ∧ (parseMethodDescriptor y_M_isTouched.desc).map (fun d => d.parameters.length) = some 2 := by decide +kernel
def y_M_remove : MethodName := ⟨"ClassifySortModel", "remove", "(I)I"⟩
theorem dy_M_remove : y_M_remove.cls ≠ "java/lang/invoke/MethodHandle" ∧ y_M_remove.cls ≠ "java/lang/invoke/VarHandle" ∧ (parseMethodDescriptor y_M_remove.desc).map (fun d => d.parameters.length) = some 1 := by decide +kernel
def y_M_fuel : MethodName := ⟨"ClassifySortModel", "fuel", "(I)I"⟩
theorem dy_M_fuel : y_M_fuel.cls ≠ "java/lang/invoke/MethodHandle" ∧ y_M_fuel.cls ≠ "java/lang/invoke/VarHandle" ∧ (parseMethodDescriptor y_M_fuel.desc).map (fun d => d.parameters.length) = some 1 := by decide +kernel
def y_M_openPairs : MethodName := ⟨"ClassifySortModel", "openPairs", "()I"⟩
theorem dy_M_openPairs : y_M_openPairs.cls ≠ "java/lang/invoke/MethodHandle" ∧ y_M_openPairs.cls ≠ "java/lang/invoke/VarHandle" ∧ (parseMethodDescriptor y_M_openPairs.desc).map (fun d => d.parameters.length) = some 0 := by decide +kernel
def y_M_known : MethodName := ⟨"ClassifySortModel", "known", "(II)I"⟩
theorem dy_M_known : y_M_known.cls ≠ "java/lang/invoke/MethodHandle" ∧ y_M_known.cls ≠ "java/lang/invoke/VarHandle" ∧ (parseMethodDescriptor y_M_known.desc).map (fun d => d.parameters.length) = some 2 := by decide +kernel
def y_M_goalOf : MethodName := ⟨"ClassifySortModel", "goalOf", "(I)I"⟩
theorem dy_M_goalOf : y_M_goalOf.cls ≠ "java/lang/invoke/MethodHandle" ∧ y_M_goalOf.cls ≠ "java/lang/invoke/VarHandle" ∧ (parseMethodDescriptor y_M_goalOf.desc).map (fun d => d.parameters.length) = some 1 := by decide +kernel
def y_M_ask : MethodName := ⟨"ClassifySortModel", "ask", "(II)I"⟩
theorem dy_M_ask : y_M_ask.cls ≠ "java/lang/invoke/MethodHandle" ∧ y_M_ask.cls ≠ "java/lang/invoke/VarHandle" ∧ (parseMethodDescriptor y_M_ask.desc).map (fun d => d.parameters.length) = some 2 := by decide +kernel
def y_M_reasonAlone : MethodName := ⟨"ClassifySortModel", "reasonAlone", "(II)I"⟩
theorem dy_M_reasonAlone : y_M_reasonAlone.cls ≠ "java/lang/invoke/MethodHandle" ∧ y_M_reasonAlone.cls ≠ "java/lang/invoke/VarHandle" ∧ (parseMethodDescriptor y_M_reasonAlone.desc).map (fun d => d.parameters.length) = some 2 := by decide +kernel
def y_M_reason : MethodName := ⟨"ClassifySortModel", "reason", "(I)I"⟩
theorem dy_M_reason : y_M_reason.cls ≠ "java/lang/invoke/MethodHandle" ∧ y_M_reason.cls ≠ "java/lang/invoke/VarHandle" ∧ (parseMethodDescriptor y_M_reason.desc).map (fun d => d.parameters.length) = some 1 := by decide +kernel
def y_M_run : MethodName := ⟨"ClassifySortModel", "run", "()I"⟩
theorem dy_M_run : y_M_run.cls ≠ "java/lang/invoke/MethodHandle" ∧ y_M_run.cls ≠ "java/lang/invoke/VarHandle" ∧ (parseMethodDescriptor y_M_run.desc).map (fun d => d.parameters.length) = some 0 := by decide +kernel
def y_M_look : MethodName := ⟨"ClassifySortModel", "look", "(II)Z"⟩
theorem dy_M_look : y_M_look.cls ≠ "java/lang/invoke/MethodHandle" ∧ y_M_look.cls ≠ "java/lang/invoke/VarHandle" ∧ (parseMethodDescriptor y_M_look.desc).map (fun d => d.parameters.length) = some 2 := by decide +kernel
def y_M_go : MethodName := ⟨"ClassifySortModel", "go", "(IZ)V"⟩
theorem dy_M_go : y_M_go.cls ≠ "java/lang/invoke/MethodHandle" ∧ y_M_go.cls ≠ "java/lang/invoke/VarHandle" ∧ (parseMethodDescriptor y_M_go.desc).map (fun d => d.parameters.length) = some 2 := by decide +kernel
def y_M_nextFor : MethodName := ⟨"ClassifySortModel", "nextFor", "(IZ)I"⟩
theorem dy_M_nextFor : y_M_nextFor.cls ≠ "java/lang/invoke/MethodHandle" ∧ y_M_nextFor.cls ≠ "java/lang/invoke/VarHandle" ∧ (parseMethodDescriptor y_M_nextFor.desc).map (fun d => d.parameters.length) = some 2 := by decide +kernel
def y_M_isDirect : MethodName := ⟨"ClassifySortModel", "isDirect", "(II)Z"⟩
theorem dy_M_isDirect : y_M_isDirect.cls ≠ "java/lang/invoke/MethodHandle" ∧ y_M_isDirect.cls ≠ "java/lang/invoke/VarHandle" ∧ (parseMethodDescriptor y_M_isDirect.desc).map (fun d => d.parameters.length) = some 2 := by decide +kernel
def y_M_isUnder : MethodName := ⟨"ClassifySortModel", "isUnder", "(II)Z"⟩
theorem dy_M_isUnder : y_M_isUnder.cls ≠ "java/lang/invoke/MethodHandle" ∧ y_M_isUnder.cls ≠ "java/lang/invoke/VarHandle" ∧ (parseMethodDescriptor y_M_isUnder.desc).map (fun d => d.parameters.length) = some 2 := by decide +kernel
def y_M_parent : MethodName := ⟨"ClassifySortModel", "parent", "(II)I"⟩
theorem dy_M_parent : y_M_parent.cls ≠ "java/lang/invoke/MethodHandle" ∧ y_M_parent.cls ≠ "java/lang/invoke/VarHandle" ∧ (parseMethodDescriptor y_M_parent.desc).map (fun d => d.parameters.length) = some 2 := by decide +kernel
def y_M_isSecond : MethodName := ⟨"ClassifySortModel", "isSecond", "(I)Z"⟩
theorem dy_M_isSecond : y_M_isSecond.cls ≠ "java/lang/invoke/MethodHandle" ∧ y_M_isSecond.cls ≠ "java/lang/invoke/VarHandle" ∧ (parseMethodDescriptor y_M_isSecond.desc).map (fun d => d.parameters.length) = some 1 := by decide +kernel
def y_M_hasBelow : MethodName := ⟨"ClassifySortModel", "hasBelow", "(I)Z"⟩
theorem dy_M_hasBelow : y_M_hasBelow.cls ≠ "java/lang/invoke/MethodHandle" ∧ y_M_hasBelow.cls ≠ "java/lang/invoke/VarHandle" ∧ (parseMethodDescriptor y_M_hasBelow.desc).map (fun d => d.parameters.length) = some 1 := by decide +kernel
def y_M_child : MethodName := ⟨"ClassifySortModel", "child", "(II)I"⟩
theorem dy_M_child : y_M_child.cls ≠ "java/lang/invoke/MethodHandle" ∧ y_M_child.cls ≠ "java/lang/invoke/VarHandle" ∧ (parseMethodDescriptor y_M_child.desc).map (fun d => d.parameters.length) = some 2 := by decide +kernel
def y_M_equal : MethodName := ⟨"ClassifySortModel", "equal", "(II)I"⟩
theorem dy_M_equal : y_M_equal.cls ≠ "java/lang/invoke/MethodHandle" ∧ y_M_equal.cls ≠ "java/lang/invoke/VarHandle" ∧ (parseMethodDescriptor y_M_equal.desc).map (fun d => d.parameters.length) = some 2 := by decide +kernel
def y_M_empty : MethodName := ⟨"ClassifySortModel", "empty", "(I)I"⟩
theorem dy_M_empty : y_M_empty.cls ≠ "java/lang/invoke/MethodHandle" ∧ y_M_empty.cls ≠ "java/lang/invoke/VarHandle" ∧ (parseMethodDescriptor y_M_empty.desc).map (fun d => d.parameters.length) = some 1 := by decide +kernel
def y_M_open : MethodName := ⟨"ClassifySortModel", "open", "(I)I"⟩
theorem dy_M_open : y_M_open.cls ≠ "java/lang/invoke/MethodHandle" ∧ y_M_open.cls ≠ "java/lang/invoke/VarHandle" ∧ (parseMethodDescriptor y_M_open.desc).map (fun d => d.parameters.length) = some 1 := by decide +kernel
def y_M_put : MethodName := ⟨"ClassifySortModel", "put", "(II)I"⟩
theorem dy_M_put : y_M_put.cls ≠ "java/lang/invoke/MethodHandle" ∧ y_M_put.cls ≠ "java/lang/invoke/VarHandle" ∧ (parseMethodDescriptor y_M_put.desc).map (fun d => d.parameters.length) = some 2 := by decide +kernel
def y_M_type : MethodName := ⟨"ClassifySortModel", "type", "(II)I"⟩
theorem dy_M_type : y_M_type.cls ≠ "java/lang/invoke/MethodHandle" ∧ y_M_type.cls ≠ "java/lang/invoke/VarHandle" ∧ (parseMethodDescriptor y_M_type.desc).map (fun d => d.parameters.length) = some 2 := by decide +kernel
def y_M_reasonThing : MethodName := ⟨"ClassifySortModel", "reasonThing", "(II)I"⟩
theorem dy_M_reasonThing : y_M_reasonThing.cls ≠ "java/lang/invoke/MethodHandle" ∧ y_M_reasonThing.cls ≠ "java/lang/invoke/VarHandle" ∧ (parseMethodDescriptor y_M_reasonThing.desc).map (fun d => d.parameters.length) = some 2 := by decide +kernel
def y_M_isIn : MethodName := ⟨"ClassifySortModel", "isIn", "(II)Z"⟩
theorem dy_M_isIn : y_M_isIn.cls ≠ "java/lang/invoke/MethodHandle" ∧ y_M_isIn.cls ≠ "java/lang/invoke/VarHandle" ∧ (parseMethodDescriptor y_M_isIn.desc).map (fun d => d.parameters.length) = some 2 := by decide +kernel
def y_M_trace : MethodName := ⟨"ClassifySortModel", "trace", "(III)I"⟩
theorem dy_M_trace : y_M_trace.cls ≠ "java/lang/invoke/MethodHandle" ∧ y_M_trace.cls ≠ "java/lang/invoke/VarHandle" ∧ (parseMethodDescriptor y_M_trace.desc).map (fun d => d.parameters.length) = some 3 := by decide +kernel
def y_M_count : MethodName := ⟨"ClassifySortModel", "count", "(I)I"⟩
theorem dy_M_count : y_M_count.cls ≠ "java/lang/invoke/MethodHandle" ∧ y_M_count.cls ≠ "java/lang/invoke/VarHandle" ∧ (parseMethodDescriptor y_M_count.desc).map (fun d => d.parameters.length) = some 1 := by decide +kernel
def TsG : List Cond := [.laysFinal "ClassifySort" "ClassifySort" "axioms" "LClassifySort$Axioms;",
  .laysFinal "ClassifySort" "ClassifySort" "reasoner" "LClassifySort$Reasoner;",
  .laysFinal "ClassifySort" "ClassifySort" "knowledge" "LClassifySort$Knowledge;",
  .laysFinal "ClassifySort" "ClassifySort" "order" "LClassifySort$Order;",
  .laysFinal "ClassifySort" "ClassifySort" "toldClasses" "[I",
  .lays "ClassifySort" "ClassifySort" "classes" "I",
  .lays "ClassifySort" "ClassifySort" "things" "I",
  .lays "ClassifySort" "ClassifySort" "questions" "I",
  .lays "ClassifySort" "ClassifySort" "sorted" "Z",
  .laysFinal "ClassifySort$Axioms" "ClassifySort$Axioms" "lefts" "[I",
  .laysFinal "ClassifySort$Axioms" "ClassifySort$Axioms" "rights" "[I",
  .lays "ClassifySort$Axioms" "ClassifySort$Axioms" "made" "I",
  .lays "ClassifySort$Axioms" "ClassifySort$Axioms" "there" "I",
  .laysFinal "ClassifySort$Reasoner" "ClassifySort$Reasoner" "axioms" "LClassifySort$Axioms;",
  .laysFinal "ClassifySort$Reasoner" "ClassifySort$Reasoner" "fired" "[I",
  .lays "ClassifySort$Reasoner" "ClassifySort$Reasoner" "limit" "I",
  .lays "ClassifySort$Reasoner" "ClassifySort$Reasoner" "steps" "I",
  .lays "ClassifySort$Reasoner" "ClassifySort$Reasoner" "facts" "I",
  .laysFinal "ClassifySort$Knowledge" "ClassifySort$Knowledge" "above" "[I",
  .laysFinal "ClassifySort$Knowledge" "ClassifySort$Knowledge" "below" "[I",
  .laysFinal "ClassifySort$Knowledge" "ClassifySort$Knowledge" "notAbove" "[I",
  .laysFinal "ClassifySort$Knowledge" "ClassifySort$Knowledge" "undecided" "[I",
  .laysFinal "ClassifySort$Order" "ClassifySort$Order" "knowledge" "LClassifySort$Knowledge;",
  .laysFinal "ClassifySort$Order" "ClassifySort$Order" "reasoner" "LClassifySort$Reasoner;",
  .lays "ClassifySort$Order" "ClassifySort$Order" "placed" "I",
  .lays "ClassifySort$Order" "ClassifySort$Order" "empties" "I",
  .lays "ClassifySort$Order" "ClassifySort$Order" "asked" "I",
  .lays "ClassifySortModel" "ClassifySortModel" "thrown" "I",
  .lays "ClassifySortModel" "ClassifySortModel" "classes" "I",
  .lays "ClassifySortModel" "ClassifySortModel" "things" "I",
  .lays "ClassifySortModel" "ClassifySortModel" "axioms" "I",
  .lays "ClassifySortModel" "ClassifySortModel" "fuel" "I",
  .lays "ClassifySortModel" "ClassifySortModel" "questions" "I",
  .lays "ClassifySortModel" "ClassifySortModel" "sorted" "Z",
  .laysFinal "ClassifySortModel" "ClassifySortModel" "left" "[I",
  .laysFinal "ClassifySortModel" "ClassifySortModel" "other" "[I",
  .laysFinal "ClassifySortModel" "ClassifySortModel" "right" "[I",
  .laysFinal "ClassifySortModel" "ClassifySortModel" "there" "[Z",
  .laysFinal "ClassifySortModel" "ClassifySortModel" "member" "[Z",
  .laysFinal "ClassifySortModel" "ClassifySortModel" "state" "[I",
  .laysFinal "ClassifySortModel" "ClassifySortModel" "before" "[I",
  .laysFinal "ClassifySortModel" "ClassifySortModel" "placed" "[Z",
  .laysFinal "ClassifySortModel" "ClassifySortModel" "looked" "[Z",
  .laysFinal "ClassifySortModel" "ClassifySortModel" "fact" "[Z",
  .laysFinal "ClassifySortModel" "ClassifySortModel" "maker" "[I",
  .laysFinal "ClassifySortModel" "ClassifySortModel" "fired" "[I",
  .lays "ClassifySortModel" "ClassifySortModel" "firedCount" "I",
  .laysFinal "ClassifySortModel" "ClassifySortModel" "needed" "[Z",
  .laysFinal "ClassifySortModel" "ClassifySortModel" "module" "[Z",
  .lays "ClassifySortModel" "ClassifySortModel" "asked" "I",
  .fieldLink "ClassifySort" 45 "ClassifySort" "classes" "I",
  .fieldLink "ClassifySort" 28 "ClassifySort" "knowledge" "LClassifySort$Knowledge;",
  .fieldLink "ClassifySort$Knowledge" 9 "ClassifySort$Knowledge" "above" "[I",
  .code y_X_bit prog_1_method_24_code 1 (some .int),
  .initialized "ClassifySort",
  .static y_X_bit,
  .fieldLink "ClassifySort$Knowledge" 15 "ClassifySort$Knowledge" "below" "[I",
  .methodLink "ClassifySort" 74 y_X_bit,
  .code y_X_has prog_1_method_25_code 2 (some .boolean),
  .static y_X_has,
  .code y_XK_tellYes prog_3_method_11_code 6 none,
  .initialized "ClassifySort$Knowledge",
  .methodLink "ClassifySort$Knowledge" 28 y_XK_tellYes,
  .instanceMethod y_XK_tellYes,
  .selects "ClassifySort$Knowledge" y_XK_tellYes y_XK_tellYes,
  .fieldLink "ClassifySort$Knowledge" 18 "ClassifySort$Knowledge" "notAbove" "[I",
  .code y_XK_union prog_3_method_18_code 4 (some .int),
  .methodLink "ClassifySort$Knowledge" 39 y_XK_union,
  .static y_XK_union,
  .fieldLink "ClassifySort$Knowledge" 21 "ClassifySort$Knowledge" "undecided" "[I",
  .code y_XK_close prog_3_method_12_code 3 none,
  .methodLink "ClassifySort$Knowledge" 32 y_XK_close,
  .instanceMethod y_XK_close,
  .selects "ClassifySort$Knowledge" y_XK_close y_XK_close,
  .code y_XK_addClass prog_3_method_2_code 2 none,
  .methodLink "ClassifySort" 59 y_XK_addClass,
  .instanceMethod y_XK_addClass,
  .selects "ClassifySort$Knowledge" y_XK_addClass y_XK_addClass,
  .fieldLink "ClassifySort" 55 "ClassifySort" "sorted" "Z",
  .fieldLink "ClassifySort" 49 "ClassifySort" "things" "I",
  .code y_X_isClass prog_1_method_19_code 2 (some .boolean),
  .methodLink "ClassifySort" 63 y_X_isClass,
  .instanceMethod y_X_isClass,
  .selects "ClassifySort" y_X_isClass y_X_isClass,
  .code y_X_isGoal prog_1_method_21_code 2 (some .boolean),
  .methodLink "ClassifySort" 67 y_X_isGoal,
  .instanceMethod y_X_isGoal,
  .selects "ClassifySort" y_X_isGoal y_X_isGoal,
  .fieldLink "ClassifySort" 12 "ClassifySort" "axioms" "LClassifySort$Axioms;",
  .fieldLink "ClassifySort$Axioms" 18 "ClassifySort$Axioms" "made" "I",
  .code y_XA_isFull prog_2_method_2_code 1 (some .boolean),
  .initialized "ClassifySort$Axioms",
  .methodLink "ClassifySort" 70 y_XA_isFull,
  .instanceMethod y_XA_isFull,
  .selects "ClassifySort$Axioms" y_XA_isFull y_XA_isFull,
  .code y_X_slot prog_1_method_23_code 1 (some .int),
  .methodLink "ClassifySort" 78 y_X_slot,
  .static y_X_slot,
  .methodLink "ClassifySort$Axioms" 29 y_XA_isFull,
  .fieldLink "ClassifySort$Axioms" 9 "ClassifySort$Axioms" "lefts" "[I",
  .fieldLink "ClassifySort$Axioms" 15 "ClassifySort$Axioms" "rights" "[I",
  .fieldLink "ClassifySort$Axioms" 22 "ClassifySort$Axioms" "there" "I",
  .code y_XA_add prog_2_method_7_code 3 (some .int),
  .methodLink "ClassifySort" 81 y_XA_add,
  .instanceMethod y_XA_add,
  .selects "ClassifySort$Axioms" y_XA_add y_XA_add,
  .code y_XA_leftOf prog_2_method_5_code 2 (some .int),
  .methodLink "ClassifySort$Axioms" 25 y_XA_leftOf,
  .instanceMethod y_XA_leftOf,
  .selects "ClassifySort$Axioms" y_XA_leftOf y_XA_leftOf,
  .code y_XA_touchedBy prog_2_method_10_code 6 (some .int),
  .methodLink "ClassifySort" 85 y_XA_touchedBy,
  .instanceMethod y_XA_touchedBy,
  .selects "ClassifySort$Axioms" y_XA_touchedBy y_XA_touchedBy,
  .code y_XK_forgetNo prog_3_method_13_code 3 none,
  .methodLink "ClassifySort" 88 y_XK_forgetNo,
  .instanceMethod y_XK_forgetNo,
  .selects "ClassifySort$Knowledge" y_XK_forgetNo y_XK_forgetNo,
  .methodLink "ClassifySort" 182 y_XA_leftOf,
  .constant "java/lang/Integer" 265 (1431655765 : Int32),
  .constant "java/lang/Integer" 266 (858993459 : Int32),
  .constant "java/lang/Integer" 267 (252645135 : Int32),
  .code y_JI_bitCount prog_8_method_49_code 1 (some .int),
  .initialized "java/lang/Integer",
  .methodLink "ClassifySort" 152 y_JI_bitCount,
  .static y_JI_bitCount,
  .constant "java/lang/Integer" 264 (65536 : Int32),
  .code y_JI_numberOfTrailingZeros prog_8_method_48_code 2 (some .int),
  .methodLink "ClassifySort" 185 y_JI_numberOfTrailingZeros,
  .static y_JI_numberOfTrailingZeros,
  .code y_XA_rightOf prog_2_method_6_code 2 (some .int),
  .methodLink "ClassifySort" 188 y_XA_rightOf,
  .instanceMethod y_XA_rightOf,
  .selects "ClassifySort$Axioms" y_XA_rightOf y_XA_rightOf,
  .methodLink "ClassifySort" 191 y_XK_tellYes,
  .methodLink "ClassifySort" 195 y_XK_close,
  .code y_X_tellAxioms prog_1_method_22_code 3 none,
  .methodLink "ClassifySort" 91 y_X_tellAxioms,
  .instanceMethod y_X_tellAxioms,
  .selects "ClassifySort" y_X_tellAxioms y_X_tellAxioms,
  .code y_XA_isThere prog_2_method_3_code 2 (some .boolean),
  .methodLink "ClassifySort" 94 y_XA_isThere,
  .instanceMethod y_XA_isThere,
  .selects "ClassifySort$Axioms" y_XA_isThere y_XA_isThere,
  .methodLink "ClassifySort$Knowledge" 43 y_JI_bitCount,
  .code y_XK_knownPairs prog_3_method_16_code 4 (some .int),
  .methodLink "ClassifySort" 97 y_XK_knownPairs,
  .instanceMethod y_XK_knownPairs,
  .selects "ClassifySort$Knowledge" y_XK_knownPairs y_XK_knownPairs,
  .methodLink "ClassifySort$Axioms" 33 y_XA_isThere,
  .code y_XA_drop prog_2_method_8_code 2 none,
  .methodLink "ClassifySort" 100 y_XA_drop,
  .instanceMethod y_XA_drop,
  .selects "ClassifySort$Axioms" y_XA_drop y_XA_drop,
  .code y_XK_forgetYes prog_3_method_14_code 3 none,
  .methodLink "ClassifySort" 103 y_XK_forgetYes,
  .instanceMethod y_XK_forgetYes,
  .selects "ClassifySort$Knowledge" y_XK_forgetYes y_XK_forgetYes,
  .code y_XK_openPairs prog_3_method_17_code 4 (some .int),
  .methodLink "ClassifySort" 106 y_XK_openPairs,
  .instanceMethod y_XK_openPairs,
  .selects "ClassifySort$Knowledge" y_XK_openPairs y_XK_openPairs,
  .fieldLink "ClassifySort" 21 "ClassifySort" "reasoner" "LClassifySort$Reasoner;",
  .methodLink "ClassifySort$Reasoner" 29 Lib.Math.min.name,
  .static Lib.Math.min.name,
  .initialized "java/lang/Math",
  .code Lib.Math.min.name Lib.Math.min.code 2 (some .int),
  .methodLink "ClassifySort$Reasoner" 35 Lib.Math.max.name,
  .static Lib.Math.max.name,
  .code Lib.Math.max.name Lib.Math.max.code 2 (some .int),
  .fieldLink "ClassifySort$Reasoner" 15 "ClassifySort$Reasoner" "limit" "I",
  .code y_XR_fillUp prog_5_method_2_code 2 none,
  .initialized "ClassifySort$Reasoner",
  .methodLink "ClassifySort" 109 y_XR_fillUp,
  .instanceMethod y_XR_fillUp,
  .selects "ClassifySort$Reasoner" y_XR_fillUp y_XR_fillUp,
  .code y_XK_forgetOpen prog_3_method_15_code 2 none,
  .methodLink "ClassifySort" 112 y_XK_forgetOpen,
  .instanceMethod y_XK_forgetOpen,
  .selects "ClassifySort$Knowledge" y_XK_forgetOpen y_XK_forgetOpen,
  .code y_XK_of prog_3_method_3_code 3 (some .int),
  .methodLink "ClassifySort" 115 y_XK_of,
  .instanceMethod y_XK_of,
  .selects "ClassifySort$Knowledge" y_XK_of y_XK_of,
  .fieldLink "ClassifySort$Reasoner" 22 "ClassifySort$Reasoner" "facts" "I",
  .fieldLink "ClassifySort$Reasoner" 19 "ClassifySort$Reasoner" "steps" "I",
  .fieldLink "ClassifySort$Reasoner" 25 "ClassifySort$Reasoner" "axioms" "LClassifySort$Axioms;",
  .code y_XA_firstThatFires prog_2_method_9_code 4 (some .int),
  .methodLink "ClassifySort$Reasoner" 42 y_XA_firstThatFires,
  .instanceMethod y_XA_firstThatFires,
  .selects "ClassifySort$Axioms" y_XA_firstThatFires y_XA_firstThatFires,
  .fieldLink "ClassifySort$Reasoner" 9 "ClassifySort$Reasoner" "fired" "[I",
  .methodLink "ClassifySort$Reasoner" 47 y_XA_rightOf,
  .code y_XR_decide prog_5_method_5_code 6 (some .int),
  .methodLink "ClassifySort" 118 y_XR_decide,
  .instanceMethod y_XR_decide,
  .selects "ClassifySort$Reasoner" y_XR_decide y_XR_decide,
  .fieldLink "ClassifySort" 37 "ClassifySort" "order" "LClassifySort$Order;",
  .fieldLink "ClassifySort$Order" 9 "ClassifySort$Order" "placed" "I",
  .fieldLink "ClassifySort$Order" 15 "ClassifySort$Order" "empties" "I",
  .fieldLink "ClassifySort$Order" 18 "ClassifySort$Order" "asked" "I",
  .fieldLink "ClassifySort$Order" 21 "ClassifySort$Order" "knowledge" "LClassifySort$Knowledge;",
  .methodLink "ClassifySort$Order" 48 y_XK_of,
  .fieldLink "ClassifySort$Order" 25 "ClassifySort$Order" "reasoner" "LClassifySort$Reasoner;",
  .methodLink "ClassifySort$Order" 53 y_XR_decide,
  .code y_XK_learn prog_3_method_10_code 4 none,
  .methodLink "ClassifySort$Order" 58 y_XK_learn,
  .instanceMethod y_XK_learn,
  .selects "ClassifySort$Knowledge" y_XK_learn y_XK_learn,
  .code y_XO_answer prog_4_method_6_code 3 (some .int),
  .initialized "ClassifySort$Order",
  .methodLink "ClassifySort$Order" 33 y_XO_answer,
  .instanceMethod y_XO_answer,
  .selects "ClassifySort$Order" y_XO_answer y_XO_answer,
  .code y_XK_allAbove prog_3_method_4_code 2 (some .int),
  .methodLink "ClassifySort$Order" 68 y_XK_allAbove,
  .instanceMethod y_XK_allAbove,
  .selects "ClassifySort$Knowledge" y_XK_allAbove y_XK_allAbove,
  .code y_XK_strictlyAbove prog_3_method_6_code 2 (some .int),
  .methodLink "ClassifySort$Order" 71 y_XK_strictlyAbove,
  .instanceMethod y_XK_strictlyAbove,
  .selects "ClassifySort$Knowledge" y_XK_strictlyAbove y_XK_strictlyAbove,
  .code y_XO_nextDown prog_4_method_9_code 5 (some .int),
  .methodLink "ClassifySort$Order" 62 y_XO_nextDown,
  .instanceMethod y_XO_nextDown,
  .selects "ClassifySort$Order" y_XO_nextDown y_XO_nextDown,
  .code y_XO_searchDown prog_4_method_7_code 5 none,
  .methodLink "ClassifySort$Order" 41 y_XO_searchDown,
  .instanceMethod y_XO_searchDown,
  .selects "ClassifySort$Order" y_XO_searchDown y_XO_searchDown,
  .code y_XK_allBelow prog_3_method_5_code 2 (some .int),
  .methodLink "ClassifySort$Order" 74 y_XK_allBelow,
  .instanceMethod y_XK_allBelow,
  .selects "ClassifySort$Knowledge" y_XK_allBelow y_XK_allBelow,
  .code y_XK_strictlyBelow prog_3_method_7_code 2 (some .int),
  .methodLink "ClassifySort$Order" 77 y_XK_strictlyBelow,
  .instanceMethod y_XK_strictlyBelow,
  .selects "ClassifySort$Knowledge" y_XK_strictlyBelow y_XK_strictlyBelow,
  .code y_XO_nextUp prog_4_method_10_code 6 (some .int),
  .methodLink "ClassifySort$Order" 65 y_XO_nextUp,
  .instanceMethod y_XO_nextUp,
  .selects "ClassifySort$Order" y_XO_nextUp y_XO_nextUp,
  .code y_XO_searchUp prog_4_method_8_code 5 none,
  .methodLink "ClassifySort$Order" 45 y_XO_searchUp,
  .instanceMethod y_XO_searchUp,
  .selects "ClassifySort$Order" y_XO_searchUp y_XO_searchUp,
  .code y_XO_sort prog_4_method_5_code 3 (some .int),
  .methodLink "ClassifySort" 121 y_XO_sort,
  .instanceMethod y_XO_sort,
  .selects "ClassifySort$Order" y_XO_sort y_XO_sort,
  .fieldLink "ClassifySort" 52 "ClassifySort" "questions" "I",
  .code y_XO_isEmptyClass prog_4_method_4_code 2 (some .boolean),
  .methodLink "ClassifySort" 124 y_XO_isEmptyClass,
  .instanceMethod y_XO_isEmptyClass,
  .selects "ClassifySort$Order" y_XO_isEmptyClass y_XO_isEmptyClass,
  .code y_XK_sameAs prog_3_method_8_code 2 (some .int),
  .methodLink "ClassifySort$Order" 86 y_XK_sameAs,
  .instanceMethod y_XK_sameAs,
  .selects "ClassifySort$Knowledge" y_XK_sameAs y_XK_sameAs,
  .code y_XO_firstOfSame prog_4_method_15_code 4 (some .int),
  .methodLink "ClassifySort" 134 y_XO_firstOfSame,
  .instanceMethod y_XO_firstOfSame,
  .selects "ClassifySort$Order" y_XO_firstOfSame y_XO_firstOfSame,
  .methodLink "ClassifySort" 160 y_X_has,
  .code y_X_pick prog_1_method_26_code 4 (some .int),
  .methodLink "ClassifySort" 137 y_X_pick,
  .static y_X_pick,
  .code y_XO_directlyAbove prog_4_method_11_code 5 (some .int),
  .methodLink "ClassifySort" 131 y_XO_directlyAbove,
  .instanceMethod y_XO_directlyAbove,
  .selects "ClassifySort$Order" y_XO_directlyAbove y_XO_directlyAbove,
  .code y_XO_directlyBelow prog_4_method_12_code 5 (some .int),
  .methodLink "ClassifySort$Order" 83 y_XO_directlyBelow,
  .instanceMethod y_XO_directlyBelow,
  .selects "ClassifySort$Order" y_XO_directlyBelow y_XO_directlyBelow,
  .code y_XO_lowestAmong prog_4_method_14_code 4 (some .int),
  .methodLink "ClassifySort$Order" 80 y_XO_lowestAmong,
  .instanceMethod y_XO_lowestAmong,
  .selects "ClassifySort$Order" y_XO_lowestAmong y_XO_lowestAmong,
  .code y_XO_lowest prog_4_method_13_code 1 (some .int),
  .methodLink "ClassifySort" 127 y_XO_lowest,
  .instanceMethod y_XO_lowest,
  .selects "ClassifySort$Order" y_XO_lowest y_XO_lowest,
  .methodLink "ClassifySort" 140 y_XO_directlyBelow,
  .methodLink "ClassifySort" 143 y_XK_sameAs,
  .code y_XO_emptyClasses prog_4_method_3_code 1 (some .int),
  .methodLink "ClassifySort" 146 y_XO_emptyClasses,
  .instanceMethod y_XO_emptyClasses,
  .selects "ClassifySort$Order" y_XO_emptyClasses y_XO_emptyClasses,
  .code y_XK_openOf prog_3_method_9_code 2 (some .int),
  .methodLink "ClassifySort" 149 y_XK_openOf,
  .instanceMethod y_XK_openOf,
  .selects "ClassifySort$Knowledge" y_XK_openOf y_XK_openOf,
  .code y_X_isThing prog_1_method_20_code 2 (some .boolean),
  .methodLink "ClassifySort" 157 y_X_isThing,
  .instanceMethod y_X_isThing,
  .selects "ClassifySort" y_X_isThing y_X_isThing,
  .fieldLink "ClassifySort" 41 "ClassifySort" "toldClasses" "[I",
  .code y_XR_facts prog_5_method_3_code 1 (some .int),
  .methodLink "ClassifySort" 164 y_XR_facts,
  .instanceMethod y_XR_facts,
  .selects "ClassifySort$Reasoner" y_XR_facts y_XR_facts,
  .methodLink "ClassifySort" 167 y_XO_lowestAmong,
  .methodLink "ClassifySort$Reasoner" 54 y_XA_leftOf,
  .code y_XR_neededSteps prog_5_method_6_code 4 (some .int),
  .methodLink "ClassifySort" 170 y_XR_neededSteps,
  .instanceMethod y_XR_neededSteps,
  .selects "ClassifySort$Reasoner" y_XR_neededSteps y_XR_neededSteps,
  .code y_XR_firedAt prog_5_method_4_code 2 (some .int),
  .methodLink "ClassifySort" 173 y_XR_firedAt,
  .instanceMethod y_XR_firedAt,
  .selects "ClassifySort$Reasoner" y_XR_firedAt y_XR_firedAt,
  .code y_XA_thereNow prog_2_method_4_code 1 (some .int),
  .methodLink "ClassifySort" 176 y_XA_thereNow,
  .instanceMethod y_XA_thereNow,
  .selects "ClassifySort$Axioms" y_XA_thereNow y_XA_thereNow,
  .code y_XO_placedClasses prog_4_method_2_code 1 (some .int),
  .methodLink "ClassifySort" 179 y_XO_placedClasses,
  .instanceMethod y_XO_placedClasses,
  .selects "ClassifySort$Order" y_XO_placedClasses y_XO_placedClasses,
  .fieldLink "ClassifySortModel" 60 "ClassifySortModel" "classes" "I",
  .fieldLink "ClassifySortModel" 97 "ClassifySortModel" "sorted" "Z",
  .fieldLink "ClassifySortModel" 67 "ClassifySortModel" "axioms" "I",
  .fieldLink "ClassifySortModel" 23 "ClassifySortModel" "there" "[Z",
  .fieldLink "ClassifySortModel" 13 "ClassifySortModel" "left" "[I",
  .fieldLink "ClassifySortModel" 17 "ClassifySortModel" "other" "[I",
  .fieldLink "ClassifySortModel" 20 "ClassifySortModel" "right" "[I",
  .code y_M_isItself prog_7_method_6_code 5 (some .boolean),
  .initialized "ClassifySortModel",
  .methodLink "ClassifySortModel" 70 y_M_isItself,
  .instanceMethod y_M_isItself,
  .selects "ClassifySortModel" y_M_isItself y_M_isItself,
  .fieldLink "ClassifySortModel" 30 "ClassifySortModel" "state" "[I",
  .code y_M_tellItself prog_7_method_7_code 3 none,
  .methodLink "ClassifySortModel" 83 y_M_tellItself,
  .instanceMethod y_M_tellItself,
  .selects "ClassifySortModel" y_M_tellItself y_M_tellItself,
  .code y_M_isHere prog_7_method_8_code 2 (some .boolean),
  .methodLink "ClassifySortModel" 74 y_M_isHere,
  .instanceMethod y_M_isHere,
  .selects "ClassifySortModel" y_M_isHere y_M_isHere,
  .code y_M_below prog_7_method_5_code 3 (some .boolean),
  .methodLink "ClassifySortModel" 77 y_M_below,
  .instanceMethod y_M_below,
  .selects "ClassifySortModel" y_M_below y_M_below,
  .code y_M_spreadNo prog_7_method_10_code 7 (some .boolean),
  .methodLink "ClassifySortModel" 80 y_M_spreadNo,
  .instanceMethod y_M_spreadNo,
  .selects "ClassifySortModel" y_M_spreadNo y_M_spreadNo,
  .code y_M_closeOnce prog_7_method_9_code 5 (some .boolean),
  .methodLink "ClassifySortModel" 86 y_M_closeOnce,
  .instanceMethod y_M_closeOnce,
  .selects "ClassifySortModel" y_M_closeOnce y_M_closeOnce,
  .code y_M_close prog_7_method_11_code 2 none,
  .methodLink "ClassifySortModel" 101 y_M_close,
  .instanceMethod y_M_close,
  .selects "ClassifySortModel" y_M_close y_M_close,
  .fieldLink "ClassifySortModel" 104 "ClassifySortModel" "things" "I",
  .code y_M_isClass prog_7_method_3_code 2 (some .boolean),
  .methodLink "ClassifySortModel" 63 y_M_isClass,
  .instanceMethod y_M_isClass,
  .selects "ClassifySortModel" y_M_isClass y_M_isClass,
  .fieldLink "ClassifySortModel" 54 "ClassifySortModel" "module" "[Z",
  .code y_M_isTouched prog_7_method_17_code 7 (some .boolean),
  .methodLink "ClassifySortModel" 107 y_M_isTouched,
  .instanceMethod y_M_isTouched,
  .selects "ClassifySortModel" y_M_isTouched y_M_isTouched,
  .code y_M_forget prog_7_method_18_code 6 none,
  .methodLink "ClassifySortModel" 110 y_M_forget,
  .instanceMethod y_M_forget,
  .selects "ClassifySortModel" y_M_forget y_M_forget,
  .fieldLink "ClassifySortModel" 33 "ClassifySortModel" "before" "[I",
  .code y_M_openPairs prog_7_method_21_code 3 (some .int),
  .methodLink "ClassifySortModel" 114 y_M_openPairs,
  .instanceMethod y_M_openPairs,
  .selects "ClassifySortModel" y_M_openPairs y_M_openPairs,
  .fieldLink "ClassifySortModel" 7 "ClassifySortModel" "fuel" "I",
  .code y_M_goalOf prog_7_method_4_code 2 (some .int),
  .methodLink "ClassifySortModel" 118 y_M_goalOf,
  .instanceMethod y_M_goalOf,
  .selects "ClassifySortModel" y_M_goalOf y_M_goalOf,
  .fieldLink "ClassifySortModel" 42 "ClassifySortModel" "fact" "[Z",
  .fieldLink "ClassifySortModel" 90 "ClassifySortModel" "firedCount" "I",
  .fieldLink "ClassifySortModel" 45 "ClassifySortModel" "maker" "[I",
  .fieldLink "ClassifySortModel" 48 "ClassifySortModel" "fired" "[I",
  .code y_M_reason prog_7_method_12_code 5 (some .int),
  .methodLink "ClassifySortModel" 93 y_M_reason,
  .instanceMethod y_M_reason,
  .selects "ClassifySortModel" y_M_reason y_M_reason,
  .code y_M_reasonAlone prog_7_method_13_code 4 (some .int),
  .methodLink "ClassifySortModel" 121 y_M_reasonAlone,
  .instanceMethod y_M_reasonAlone,
  .selects "ClassifySortModel" y_M_reasonAlone y_M_reasonAlone,
  .fieldLink "ClassifySortModel" 125 "ClassifySortModel" "asked" "I",
  .fieldLink "ClassifySortModel" 36 "ClassifySortModel" "placed" "[Z",
  .code y_M_look prog_7_method_25_code 3 (some .boolean),
  .methodLink "ClassifySortModel" 138 y_M_look,
  .instanceMethod y_M_look,
  .selects "ClassifySortModel" y_M_look y_M_look,
  .fieldLink "ClassifySortModel" 39 "ClassifySortModel" "looked" "[Z",
  .code y_M_isUnder prog_7_method_26_code 3 (some .boolean),
  .methodLink "ClassifySortModel" 128 y_M_isUnder,
  .instanceMethod y_M_isUnder,
  .selects "ClassifySortModel" y_M_isUnder y_M_isUnder,
  .code y_M_isDirect prog_7_method_27_code 5 (some .boolean),
  .methodLink "ClassifySortModel" 131 y_M_isDirect,
  .instanceMethod y_M_isDirect,
  .selects "ClassifySortModel" y_M_isDirect y_M_isDirect,
  .code y_M_nextFor prog_7_method_28_code 7 (some .int),
  .methodLink "ClassifySortModel" 134 y_M_nextFor,
  .instanceMethod y_M_nextFor,
  .selects "ClassifySortModel" y_M_nextFor y_M_nextFor,
  .code y_M_go prog_7_method_29_code 5 none,
  .methodLink "ClassifySortModel" 141 y_M_go,
  .instanceMethod y_M_go,
  .selects "ClassifySortModel" y_M_go y_M_go,
  .fieldLink "ClassifySortModel" 145 "ClassifySortModel" "questions" "I",
  .code y_M_isSecond prog_7_method_31_code 4 (some .boolean),
  .methodLink "ClassifySortModel" 148 y_M_isSecond,
  .instanceMethod y_M_isSecond,
  .selects "ClassifySortModel" y_M_isSecond y_M_isSecond,
  .code y_M_hasBelow prog_7_method_32_code 4 (some .boolean),
  .methodLink "ClassifySortModel" 151 y_M_hasBelow,
  .instanceMethod y_M_hasBelow,
  .selects "ClassifySortModel" y_M_hasBelow y_M_hasBelow,
  .fieldLink "ClassifySortModel" 27 "ClassifySortModel" "member" "[Z",
  .code y_M_reasonThing prog_7_method_14_code 4 (some .int),
  .methodLink "ClassifySortModel" 154 y_M_reasonThing,
  .instanceMethod y_M_reasonThing,
  .selects "ClassifySortModel" y_M_reasonThing y_M_reasonThing,
  .code y_M_isIn prog_7_method_39_code 3 (some .boolean),
  .methodLink "ClassifySortModel" 157 y_M_isIn,
  .instanceMethod y_M_isIn,
  .selects "ClassifySortModel" y_M_isIn y_M_isIn,
  .fieldLink "ClassifySortModel" 51 "ClassifySortModel" "needed" "[Z"]
def NsG : jNt := [("ClassifySort$Knowledge", 24, y_X_bit, "ClassifySort"),
  ("ClassifySort$Knowledge", 35, y_X_has, "ClassifySort"),
  ("ClassifySort$Axioms", 41, y_X_bit, "ClassifySort"),
  ("ClassifySort$Reasoner", 38, y_X_bit, "ClassifySort"),
  ("ClassifySort$Axioms", 37, y_X_has, "ClassifySort"),
  ("ClassifySort$Order", 37, y_X_bit, "ClassifySort"),
  ("ClassifySort$Order", 29, y_X_has, "ClassifySort"),
  ("ClassifySort$Reasoner", 50, y_X_has, "ClassifySort")]
theorem ns_0 : (("ClassifySort$Knowledge", 24, y_X_bit, "ClassifySort") : String × Nat × MethodName × String) ∈ NsG := List.mem_of_getElem? (i := 0) rfl
theorem ns_1 : (("ClassifySort$Knowledge", 35, y_X_has, "ClassifySort") : String × Nat × MethodName × String) ∈ NsG := List.mem_of_getElem? (i := 1) rfl
theorem ns_2 : (("ClassifySort$Axioms", 41, y_X_bit, "ClassifySort") : String × Nat × MethodName × String) ∈ NsG := List.mem_of_getElem? (i := 2) rfl
theorem ns_3 : (("ClassifySort$Reasoner", 38, y_X_bit, "ClassifySort") : String × Nat × MethodName × String) ∈ NsG := List.mem_of_getElem? (i := 3) rfl
theorem ns_4 : (("ClassifySort$Axioms", 37, y_X_has, "ClassifySort") : String × Nat × MethodName × String) ∈ NsG := List.mem_of_getElem? (i := 4) rfl
theorem ns_5 : (("ClassifySort$Order", 37, y_X_bit, "ClassifySort") : String × Nat × MethodName × String) ∈ NsG := List.mem_of_getElem? (i := 5) rfl
theorem ns_6 : (("ClassifySort$Order", 29, y_X_has, "ClassifySort") : String × Nat × MethodName × String) ∈ NsG := List.mem_of_getElem? (i := 6) rfl
theorem ns_7 : (("ClassifySort$Reasoner", 50, y_X_has, "ClassifySort") : String × Nat × MethodName × String) ∈ NsG := List.mem_of_getElem? (i := 7) rfl
theorem ts_good : ∀ w ∈ TsG, (w.onTables && w.keeps) = true ∨ ∃ ty, w = .arrayClass ty := fun w hw => good_of_word (List.all_eq_true.mp (by decide +kernel : TsG.all goodWord = true) w hw)
theorem ts_0 : Cond.fieldLink "ClassifySort" 45 "ClassifySort" "classes" "I" ∈ TsG := List.mem_of_getElem? (i := 50) rfl
theorem ts_1 : Cond.fieldLink "ClassifySort" 28 "ClassifySort" "knowledge" "LClassifySort$Knowledge;" ∈ TsG := List.mem_of_getElem? (i := 51) rfl
theorem ts_2 : Cond.fieldLink "ClassifySort$Knowledge" 9 "ClassifySort$Knowledge" "above" "[I" ∈ TsG := List.mem_of_getElem? (i := 52) rfl
theorem ts_3 : Cond.code y_X_bit prog_1_method_24_code 1 (some .int) ∈ TsG := List.mem_of_getElem? (i := 53) rfl
theorem ts_4 : Cond.initialized "ClassifySort" ∈ TsG := List.mem_of_getElem? (i := 54) rfl
theorem ts_5 : Cond.static y_X_bit ∈ TsG := List.mem_of_getElem? (i := 55) rfl
theorem ts_6 : Cond.fieldLink "ClassifySort$Knowledge" 15 "ClassifySort$Knowledge" "below" "[I" ∈ TsG := List.mem_of_getElem? (i := 56) rfl
theorem ts_7 : Cond.methodLink "ClassifySort" 74 y_X_bit ∈ TsG := List.mem_of_getElem? (i := 57) rfl
theorem ts_8 : Cond.code y_X_has prog_1_method_25_code 2 (some .boolean) ∈ TsG := List.mem_of_getElem? (i := 58) rfl
theorem ts_9 : Cond.static y_X_has ∈ TsG := List.mem_of_getElem? (i := 59) rfl
theorem ts_10 : Cond.code y_XK_tellYes prog_3_method_11_code 6 none ∈ TsG := List.mem_of_getElem? (i := 60) rfl
theorem ts_11 : Cond.initialized "ClassifySort$Knowledge" ∈ TsG := List.mem_of_getElem? (i := 61) rfl
theorem ts_12 : Cond.methodLink "ClassifySort$Knowledge" 28 y_XK_tellYes ∈ TsG := List.mem_of_getElem? (i := 62) rfl
theorem ts_13 : Cond.instanceMethod y_XK_tellYes ∈ TsG := List.mem_of_getElem? (i := 63) rfl
theorem ts_14 : Cond.selects "ClassifySort$Knowledge" y_XK_tellYes y_XK_tellYes ∈ TsG := List.mem_of_getElem? (i := 64) rfl
theorem ts_15 : Cond.fieldLink "ClassifySort$Knowledge" 18 "ClassifySort$Knowledge" "notAbove" "[I" ∈ TsG := List.mem_of_getElem? (i := 65) rfl
theorem ts_16 : Cond.code y_XK_union prog_3_method_18_code 4 (some .int) ∈ TsG := List.mem_of_getElem? (i := 66) rfl
theorem ts_17 : Cond.methodLink "ClassifySort$Knowledge" 39 y_XK_union ∈ TsG := List.mem_of_getElem? (i := 67) rfl
theorem ts_18 : Cond.static y_XK_union ∈ TsG := List.mem_of_getElem? (i := 68) rfl
theorem ts_19 : Cond.fieldLink "ClassifySort$Knowledge" 21 "ClassifySort$Knowledge" "undecided" "[I" ∈ TsG := List.mem_of_getElem? (i := 69) rfl
theorem ts_20 : Cond.code y_XK_close prog_3_method_12_code 3 none ∈ TsG := List.mem_of_getElem? (i := 70) rfl
theorem ts_21 : Cond.methodLink "ClassifySort$Knowledge" 32 y_XK_close ∈ TsG := List.mem_of_getElem? (i := 71) rfl
theorem ts_22 : Cond.instanceMethod y_XK_close ∈ TsG := List.mem_of_getElem? (i := 72) rfl
theorem ts_23 : Cond.selects "ClassifySort$Knowledge" y_XK_close y_XK_close ∈ TsG := List.mem_of_getElem? (i := 73) rfl
theorem ts_24 : Cond.code y_XK_addClass prog_3_method_2_code 2 none ∈ TsG := List.mem_of_getElem? (i := 74) rfl
theorem ts_25 : Cond.methodLink "ClassifySort" 59 y_XK_addClass ∈ TsG := List.mem_of_getElem? (i := 75) rfl
theorem ts_26 : Cond.instanceMethod y_XK_addClass ∈ TsG := List.mem_of_getElem? (i := 76) rfl
theorem ts_27 : Cond.selects "ClassifySort$Knowledge" y_XK_addClass y_XK_addClass ∈ TsG := List.mem_of_getElem? (i := 77) rfl
theorem ts_28 : Cond.fieldLink "ClassifySort" 55 "ClassifySort" "sorted" "Z" ∈ TsG := List.mem_of_getElem? (i := 78) rfl
theorem ts_29 : Cond.fieldLink "ClassifySort" 49 "ClassifySort" "things" "I" ∈ TsG := List.mem_of_getElem? (i := 79) rfl
theorem ts_30 : Cond.code y_X_isClass prog_1_method_19_code 2 (some .boolean) ∈ TsG := List.mem_of_getElem? (i := 80) rfl
theorem ts_31 : Cond.methodLink "ClassifySort" 63 y_X_isClass ∈ TsG := List.mem_of_getElem? (i := 81) rfl
theorem ts_32 : Cond.instanceMethod y_X_isClass ∈ TsG := List.mem_of_getElem? (i := 82) rfl
theorem ts_33 : Cond.selects "ClassifySort" y_X_isClass y_X_isClass ∈ TsG := List.mem_of_getElem? (i := 83) rfl
theorem ts_34 : Cond.code y_X_isGoal prog_1_method_21_code 2 (some .boolean) ∈ TsG := List.mem_of_getElem? (i := 84) rfl
theorem ts_35 : Cond.methodLink "ClassifySort" 67 y_X_isGoal ∈ TsG := List.mem_of_getElem? (i := 85) rfl
theorem ts_36 : Cond.instanceMethod y_X_isGoal ∈ TsG := List.mem_of_getElem? (i := 86) rfl
theorem ts_37 : Cond.selects "ClassifySort" y_X_isGoal y_X_isGoal ∈ TsG := List.mem_of_getElem? (i := 87) rfl
theorem ts_38 : Cond.fieldLink "ClassifySort" 12 "ClassifySort" "axioms" "LClassifySort$Axioms;" ∈ TsG := List.mem_of_getElem? (i := 88) rfl
theorem ts_39 : Cond.fieldLink "ClassifySort$Axioms" 18 "ClassifySort$Axioms" "made" "I" ∈ TsG := List.mem_of_getElem? (i := 89) rfl
theorem ts_40 : Cond.code y_XA_isFull prog_2_method_2_code 1 (some .boolean) ∈ TsG := List.mem_of_getElem? (i := 90) rfl
theorem ts_41 : Cond.initialized "ClassifySort$Axioms" ∈ TsG := List.mem_of_getElem? (i := 91) rfl
theorem ts_42 : Cond.methodLink "ClassifySort" 70 y_XA_isFull ∈ TsG := List.mem_of_getElem? (i := 92) rfl
theorem ts_43 : Cond.instanceMethod y_XA_isFull ∈ TsG := List.mem_of_getElem? (i := 93) rfl
theorem ts_44 : Cond.selects "ClassifySort$Axioms" y_XA_isFull y_XA_isFull ∈ TsG := List.mem_of_getElem? (i := 94) rfl
theorem ts_45 : Cond.code y_X_slot prog_1_method_23_code 1 (some .int) ∈ TsG := List.mem_of_getElem? (i := 95) rfl
theorem ts_46 : Cond.methodLink "ClassifySort" 78 y_X_slot ∈ TsG := List.mem_of_getElem? (i := 96) rfl
theorem ts_47 : Cond.static y_X_slot ∈ TsG := List.mem_of_getElem? (i := 97) rfl
theorem ts_48 : Cond.methodLink "ClassifySort$Axioms" 29 y_XA_isFull ∈ TsG := List.mem_of_getElem? (i := 98) rfl
theorem ts_49 : Cond.fieldLink "ClassifySort$Axioms" 9 "ClassifySort$Axioms" "lefts" "[I" ∈ TsG := List.mem_of_getElem? (i := 99) rfl
theorem ts_50 : Cond.fieldLink "ClassifySort$Axioms" 15 "ClassifySort$Axioms" "rights" "[I" ∈ TsG := List.mem_of_getElem? (i := 100) rfl
theorem ts_51 : Cond.fieldLink "ClassifySort$Axioms" 22 "ClassifySort$Axioms" "there" "I" ∈ TsG := List.mem_of_getElem? (i := 101) rfl
theorem ts_52 : Cond.code y_XA_add prog_2_method_7_code 3 (some .int) ∈ TsG := List.mem_of_getElem? (i := 102) rfl
theorem ts_53 : Cond.methodLink "ClassifySort" 81 y_XA_add ∈ TsG := List.mem_of_getElem? (i := 103) rfl
theorem ts_54 : Cond.instanceMethod y_XA_add ∈ TsG := List.mem_of_getElem? (i := 104) rfl
theorem ts_55 : Cond.selects "ClassifySort$Axioms" y_XA_add y_XA_add ∈ TsG := List.mem_of_getElem? (i := 105) rfl
theorem ts_56 : Cond.code y_XA_leftOf prog_2_method_5_code 2 (some .int) ∈ TsG := List.mem_of_getElem? (i := 106) rfl
theorem ts_57 : Cond.methodLink "ClassifySort$Axioms" 25 y_XA_leftOf ∈ TsG := List.mem_of_getElem? (i := 107) rfl
theorem ts_58 : Cond.instanceMethod y_XA_leftOf ∈ TsG := List.mem_of_getElem? (i := 108) rfl
theorem ts_59 : Cond.selects "ClassifySort$Axioms" y_XA_leftOf y_XA_leftOf ∈ TsG := List.mem_of_getElem? (i := 109) rfl
theorem ts_60 : Cond.code y_XA_touchedBy prog_2_method_10_code 6 (some .int) ∈ TsG := List.mem_of_getElem? (i := 110) rfl
theorem ts_61 : Cond.methodLink "ClassifySort" 85 y_XA_touchedBy ∈ TsG := List.mem_of_getElem? (i := 111) rfl
theorem ts_62 : Cond.instanceMethod y_XA_touchedBy ∈ TsG := List.mem_of_getElem? (i := 112) rfl
theorem ts_63 : Cond.selects "ClassifySort$Axioms" y_XA_touchedBy y_XA_touchedBy ∈ TsG := List.mem_of_getElem? (i := 113) rfl
theorem ts_64 : Cond.code y_XK_forgetNo prog_3_method_13_code 3 none ∈ TsG := List.mem_of_getElem? (i := 114) rfl
theorem ts_65 : Cond.methodLink "ClassifySort" 88 y_XK_forgetNo ∈ TsG := List.mem_of_getElem? (i := 115) rfl
theorem ts_66 : Cond.instanceMethod y_XK_forgetNo ∈ TsG := List.mem_of_getElem? (i := 116) rfl
theorem ts_67 : Cond.selects "ClassifySort$Knowledge" y_XK_forgetNo y_XK_forgetNo ∈ TsG := List.mem_of_getElem? (i := 117) rfl
theorem ts_68 : Cond.methodLink "ClassifySort" 182 y_XA_leftOf ∈ TsG := List.mem_of_getElem? (i := 118) rfl
theorem ts_69 : Cond.constant "java/lang/Integer" 265 (1431655765 : Int32) ∈ TsG := List.mem_of_getElem? (i := 119) rfl
theorem ts_70 : Cond.constant "java/lang/Integer" 266 (858993459 : Int32) ∈ TsG := List.mem_of_getElem? (i := 120) rfl
theorem ts_71 : Cond.constant "java/lang/Integer" 267 (252645135 : Int32) ∈ TsG := List.mem_of_getElem? (i := 121) rfl
theorem ts_72 : Cond.code y_JI_bitCount prog_8_method_49_code 1 (some .int) ∈ TsG := List.mem_of_getElem? (i := 122) rfl
theorem ts_73 : Cond.initialized "java/lang/Integer" ∈ TsG := List.mem_of_getElem? (i := 123) rfl
theorem ts_74 : Cond.methodLink "ClassifySort" 152 y_JI_bitCount ∈ TsG := List.mem_of_getElem? (i := 124) rfl
theorem ts_75 : Cond.static y_JI_bitCount ∈ TsG := List.mem_of_getElem? (i := 125) rfl
theorem ts_76 : Cond.constant "java/lang/Integer" 264 (65536 : Int32) ∈ TsG := List.mem_of_getElem? (i := 126) rfl
theorem ts_77 : Cond.code y_JI_numberOfTrailingZeros prog_8_method_48_code 2 (some .int) ∈ TsG := List.mem_of_getElem? (i := 127) rfl
theorem ts_78 : Cond.methodLink "ClassifySort" 185 y_JI_numberOfTrailingZeros ∈ TsG := List.mem_of_getElem? (i := 128) rfl
theorem ts_79 : Cond.static y_JI_numberOfTrailingZeros ∈ TsG := List.mem_of_getElem? (i := 129) rfl
theorem ts_80 : Cond.code y_XA_rightOf prog_2_method_6_code 2 (some .int) ∈ TsG := List.mem_of_getElem? (i := 130) rfl
theorem ts_81 : Cond.methodLink "ClassifySort" 188 y_XA_rightOf ∈ TsG := List.mem_of_getElem? (i := 131) rfl
theorem ts_82 : Cond.instanceMethod y_XA_rightOf ∈ TsG := List.mem_of_getElem? (i := 132) rfl
theorem ts_83 : Cond.selects "ClassifySort$Axioms" y_XA_rightOf y_XA_rightOf ∈ TsG := List.mem_of_getElem? (i := 133) rfl
theorem ts_84 : Cond.methodLink "ClassifySort" 191 y_XK_tellYes ∈ TsG := List.mem_of_getElem? (i := 134) rfl
theorem ts_85 : Cond.methodLink "ClassifySort" 195 y_XK_close ∈ TsG := List.mem_of_getElem? (i := 135) rfl
theorem ts_86 : Cond.code y_X_tellAxioms prog_1_method_22_code 3 none ∈ TsG := List.mem_of_getElem? (i := 136) rfl
theorem ts_87 : Cond.methodLink "ClassifySort" 91 y_X_tellAxioms ∈ TsG := List.mem_of_getElem? (i := 137) rfl
theorem ts_88 : Cond.instanceMethod y_X_tellAxioms ∈ TsG := List.mem_of_getElem? (i := 138) rfl
theorem ts_89 : Cond.selects "ClassifySort" y_X_tellAxioms y_X_tellAxioms ∈ TsG := List.mem_of_getElem? (i := 139) rfl
theorem ts_90 : Cond.code y_XA_isThere prog_2_method_3_code 2 (some .boolean) ∈ TsG := List.mem_of_getElem? (i := 140) rfl
theorem ts_91 : Cond.methodLink "ClassifySort" 94 y_XA_isThere ∈ TsG := List.mem_of_getElem? (i := 141) rfl
theorem ts_92 : Cond.instanceMethod y_XA_isThere ∈ TsG := List.mem_of_getElem? (i := 142) rfl
theorem ts_93 : Cond.selects "ClassifySort$Axioms" y_XA_isThere y_XA_isThere ∈ TsG := List.mem_of_getElem? (i := 143) rfl
theorem ts_94 : Cond.methodLink "ClassifySort$Knowledge" 43 y_JI_bitCount ∈ TsG := List.mem_of_getElem? (i := 144) rfl
theorem ts_95 : Cond.code y_XK_knownPairs prog_3_method_16_code 4 (some .int) ∈ TsG := List.mem_of_getElem? (i := 145) rfl
theorem ts_96 : Cond.methodLink "ClassifySort" 97 y_XK_knownPairs ∈ TsG := List.mem_of_getElem? (i := 146) rfl
theorem ts_97 : Cond.instanceMethod y_XK_knownPairs ∈ TsG := List.mem_of_getElem? (i := 147) rfl
theorem ts_98 : Cond.selects "ClassifySort$Knowledge" y_XK_knownPairs y_XK_knownPairs ∈ TsG := List.mem_of_getElem? (i := 148) rfl
theorem ts_99 : Cond.methodLink "ClassifySort$Axioms" 33 y_XA_isThere ∈ TsG := List.mem_of_getElem? (i := 149) rfl
theorem ts_100 : Cond.code y_XA_drop prog_2_method_8_code 2 none ∈ TsG := List.mem_of_getElem? (i := 150) rfl
theorem ts_101 : Cond.methodLink "ClassifySort" 100 y_XA_drop ∈ TsG := List.mem_of_getElem? (i := 151) rfl
theorem ts_102 : Cond.instanceMethod y_XA_drop ∈ TsG := List.mem_of_getElem? (i := 152) rfl
theorem ts_103 : Cond.selects "ClassifySort$Axioms" y_XA_drop y_XA_drop ∈ TsG := List.mem_of_getElem? (i := 153) rfl
theorem ts_104 : Cond.code y_XK_forgetYes prog_3_method_14_code 3 none ∈ TsG := List.mem_of_getElem? (i := 154) rfl
theorem ts_105 : Cond.methodLink "ClassifySort" 103 y_XK_forgetYes ∈ TsG := List.mem_of_getElem? (i := 155) rfl
theorem ts_106 : Cond.instanceMethod y_XK_forgetYes ∈ TsG := List.mem_of_getElem? (i := 156) rfl
theorem ts_107 : Cond.selects "ClassifySort$Knowledge" y_XK_forgetYes y_XK_forgetYes ∈ TsG := List.mem_of_getElem? (i := 157) rfl
theorem ts_108 : Cond.code y_XK_openPairs prog_3_method_17_code 4 (some .int) ∈ TsG := List.mem_of_getElem? (i := 158) rfl
theorem ts_109 : Cond.methodLink "ClassifySort" 106 y_XK_openPairs ∈ TsG := List.mem_of_getElem? (i := 159) rfl
theorem ts_110 : Cond.instanceMethod y_XK_openPairs ∈ TsG := List.mem_of_getElem? (i := 160) rfl
theorem ts_111 : Cond.selects "ClassifySort$Knowledge" y_XK_openPairs y_XK_openPairs ∈ TsG := List.mem_of_getElem? (i := 161) rfl
theorem ts_112 : Cond.fieldLink "ClassifySort" 21 "ClassifySort" "reasoner" "LClassifySort$Reasoner;" ∈ TsG := List.mem_of_getElem? (i := 162) rfl
theorem ts_113 : Cond.methodLink "ClassifySort$Reasoner" 29 Lib.Math.min.name ∈ TsG := List.mem_of_getElem? (i := 163) rfl
theorem ts_114 : Cond.static Lib.Math.min.name ∈ TsG := List.mem_of_getElem? (i := 164) rfl
theorem ts_115 : Cond.initialized "java/lang/Math" ∈ TsG := List.mem_of_getElem? (i := 165) rfl
theorem ts_116 : Cond.code Lib.Math.min.name Lib.Math.min.code 2 (some .int) ∈ TsG := List.mem_of_getElem? (i := 166) rfl
theorem ts_117 : Cond.methodLink "ClassifySort$Reasoner" 35 Lib.Math.max.name ∈ TsG := List.mem_of_getElem? (i := 167) rfl
theorem ts_118 : Cond.static Lib.Math.max.name ∈ TsG := List.mem_of_getElem? (i := 168) rfl
theorem ts_119 : Cond.code Lib.Math.max.name Lib.Math.max.code 2 (some .int) ∈ TsG := List.mem_of_getElem? (i := 169) rfl
theorem ts_120 : Cond.fieldLink "ClassifySort$Reasoner" 15 "ClassifySort$Reasoner" "limit" "I" ∈ TsG := List.mem_of_getElem? (i := 170) rfl
theorem ts_121 : Cond.code y_XR_fillUp prog_5_method_2_code 2 none ∈ TsG := List.mem_of_getElem? (i := 171) rfl
theorem ts_122 : Cond.initialized "ClassifySort$Reasoner" ∈ TsG := List.mem_of_getElem? (i := 172) rfl
theorem ts_123 : Cond.methodLink "ClassifySort" 109 y_XR_fillUp ∈ TsG := List.mem_of_getElem? (i := 173) rfl
theorem ts_124 : Cond.instanceMethod y_XR_fillUp ∈ TsG := List.mem_of_getElem? (i := 174) rfl
theorem ts_125 : Cond.selects "ClassifySort$Reasoner" y_XR_fillUp y_XR_fillUp ∈ TsG := List.mem_of_getElem? (i := 175) rfl
theorem ts_126 : Cond.code y_XK_forgetOpen prog_3_method_15_code 2 none ∈ TsG := List.mem_of_getElem? (i := 176) rfl
theorem ts_127 : Cond.methodLink "ClassifySort" 112 y_XK_forgetOpen ∈ TsG := List.mem_of_getElem? (i := 177) rfl
theorem ts_128 : Cond.instanceMethod y_XK_forgetOpen ∈ TsG := List.mem_of_getElem? (i := 178) rfl
theorem ts_129 : Cond.selects "ClassifySort$Knowledge" y_XK_forgetOpen y_XK_forgetOpen ∈ TsG := List.mem_of_getElem? (i := 179) rfl
theorem ts_130 : Cond.code y_XK_of prog_3_method_3_code 3 (some .int) ∈ TsG := List.mem_of_getElem? (i := 180) rfl
theorem ts_131 : Cond.methodLink "ClassifySort" 115 y_XK_of ∈ TsG := List.mem_of_getElem? (i := 181) rfl
theorem ts_132 : Cond.instanceMethod y_XK_of ∈ TsG := List.mem_of_getElem? (i := 182) rfl
theorem ts_133 : Cond.selects "ClassifySort$Knowledge" y_XK_of y_XK_of ∈ TsG := List.mem_of_getElem? (i := 183) rfl
theorem ts_134 : Cond.fieldLink "ClassifySort$Reasoner" 22 "ClassifySort$Reasoner" "facts" "I" ∈ TsG := List.mem_of_getElem? (i := 184) rfl
theorem ts_135 : Cond.fieldLink "ClassifySort$Reasoner" 19 "ClassifySort$Reasoner" "steps" "I" ∈ TsG := List.mem_of_getElem? (i := 185) rfl
theorem ts_136 : Cond.fieldLink "ClassifySort$Reasoner" 25 "ClassifySort$Reasoner" "axioms" "LClassifySort$Axioms;" ∈ TsG := List.mem_of_getElem? (i := 186) rfl
theorem ts_137 : Cond.code y_XA_firstThatFires prog_2_method_9_code 4 (some .int) ∈ TsG := List.mem_of_getElem? (i := 187) rfl
theorem ts_138 : Cond.methodLink "ClassifySort$Reasoner" 42 y_XA_firstThatFires ∈ TsG := List.mem_of_getElem? (i := 188) rfl
theorem ts_139 : Cond.instanceMethod y_XA_firstThatFires ∈ TsG := List.mem_of_getElem? (i := 189) rfl
theorem ts_140 : Cond.selects "ClassifySort$Axioms" y_XA_firstThatFires y_XA_firstThatFires ∈ TsG := List.mem_of_getElem? (i := 190) rfl
theorem ts_141 : Cond.fieldLink "ClassifySort$Reasoner" 9 "ClassifySort$Reasoner" "fired" "[I" ∈ TsG := List.mem_of_getElem? (i := 191) rfl
theorem ts_142 : Cond.methodLink "ClassifySort$Reasoner" 47 y_XA_rightOf ∈ TsG := List.mem_of_getElem? (i := 192) rfl
theorem ts_143 : Cond.code y_XR_decide prog_5_method_5_code 6 (some .int) ∈ TsG := List.mem_of_getElem? (i := 193) rfl
theorem ts_144 : Cond.methodLink "ClassifySort" 118 y_XR_decide ∈ TsG := List.mem_of_getElem? (i := 194) rfl
theorem ts_145 : Cond.instanceMethod y_XR_decide ∈ TsG := List.mem_of_getElem? (i := 195) rfl
theorem ts_146 : Cond.selects "ClassifySort$Reasoner" y_XR_decide y_XR_decide ∈ TsG := List.mem_of_getElem? (i := 196) rfl
theorem ts_147 : Cond.fieldLink "ClassifySort" 37 "ClassifySort" "order" "LClassifySort$Order;" ∈ TsG := List.mem_of_getElem? (i := 197) rfl
theorem ts_148 : Cond.fieldLink "ClassifySort$Order" 9 "ClassifySort$Order" "placed" "I" ∈ TsG := List.mem_of_getElem? (i := 198) rfl
theorem ts_149 : Cond.fieldLink "ClassifySort$Order" 15 "ClassifySort$Order" "empties" "I" ∈ TsG := List.mem_of_getElem? (i := 199) rfl
theorem ts_150 : Cond.fieldLink "ClassifySort$Order" 18 "ClassifySort$Order" "asked" "I" ∈ TsG := List.mem_of_getElem? (i := 200) rfl
theorem ts_151 : Cond.fieldLink "ClassifySort$Order" 21 "ClassifySort$Order" "knowledge" "LClassifySort$Knowledge;" ∈ TsG := List.mem_of_getElem? (i := 201) rfl
theorem ts_152 : Cond.methodLink "ClassifySort$Order" 48 y_XK_of ∈ TsG := List.mem_of_getElem? (i := 202) rfl
theorem ts_153 : Cond.fieldLink "ClassifySort$Order" 25 "ClassifySort$Order" "reasoner" "LClassifySort$Reasoner;" ∈ TsG := List.mem_of_getElem? (i := 203) rfl
theorem ts_154 : Cond.methodLink "ClassifySort$Order" 53 y_XR_decide ∈ TsG := List.mem_of_getElem? (i := 204) rfl
theorem ts_155 : Cond.code y_XK_learn prog_3_method_10_code 4 none ∈ TsG := List.mem_of_getElem? (i := 205) rfl
theorem ts_156 : Cond.methodLink "ClassifySort$Order" 58 y_XK_learn ∈ TsG := List.mem_of_getElem? (i := 206) rfl
theorem ts_157 : Cond.instanceMethod y_XK_learn ∈ TsG := List.mem_of_getElem? (i := 207) rfl
theorem ts_158 : Cond.selects "ClassifySort$Knowledge" y_XK_learn y_XK_learn ∈ TsG := List.mem_of_getElem? (i := 208) rfl
theorem ts_159 : Cond.code y_XO_answer prog_4_method_6_code 3 (some .int) ∈ TsG := List.mem_of_getElem? (i := 209) rfl
theorem ts_160 : Cond.initialized "ClassifySort$Order" ∈ TsG := List.mem_of_getElem? (i := 210) rfl
theorem ts_161 : Cond.methodLink "ClassifySort$Order" 33 y_XO_answer ∈ TsG := List.mem_of_getElem? (i := 211) rfl
theorem ts_162 : Cond.instanceMethod y_XO_answer ∈ TsG := List.mem_of_getElem? (i := 212) rfl
theorem ts_163 : Cond.selects "ClassifySort$Order" y_XO_answer y_XO_answer ∈ TsG := List.mem_of_getElem? (i := 213) rfl
theorem ts_164 : Cond.code y_XK_allAbove prog_3_method_4_code 2 (some .int) ∈ TsG := List.mem_of_getElem? (i := 214) rfl
theorem ts_165 : Cond.methodLink "ClassifySort$Order" 68 y_XK_allAbove ∈ TsG := List.mem_of_getElem? (i := 215) rfl
theorem ts_166 : Cond.instanceMethod y_XK_allAbove ∈ TsG := List.mem_of_getElem? (i := 216) rfl
theorem ts_167 : Cond.selects "ClassifySort$Knowledge" y_XK_allAbove y_XK_allAbove ∈ TsG := List.mem_of_getElem? (i := 217) rfl
theorem ts_168 : Cond.code y_XK_strictlyAbove prog_3_method_6_code 2 (some .int) ∈ TsG := List.mem_of_getElem? (i := 218) rfl
theorem ts_169 : Cond.methodLink "ClassifySort$Order" 71 y_XK_strictlyAbove ∈ TsG := List.mem_of_getElem? (i := 219) rfl
theorem ts_170 : Cond.instanceMethod y_XK_strictlyAbove ∈ TsG := List.mem_of_getElem? (i := 220) rfl
theorem ts_171 : Cond.selects "ClassifySort$Knowledge" y_XK_strictlyAbove y_XK_strictlyAbove ∈ TsG := List.mem_of_getElem? (i := 221) rfl
theorem ts_172 : Cond.code y_XO_nextDown prog_4_method_9_code 5 (some .int) ∈ TsG := List.mem_of_getElem? (i := 222) rfl
theorem ts_173 : Cond.methodLink "ClassifySort$Order" 62 y_XO_nextDown ∈ TsG := List.mem_of_getElem? (i := 223) rfl
theorem ts_174 : Cond.instanceMethod y_XO_nextDown ∈ TsG := List.mem_of_getElem? (i := 224) rfl
theorem ts_175 : Cond.selects "ClassifySort$Order" y_XO_nextDown y_XO_nextDown ∈ TsG := List.mem_of_getElem? (i := 225) rfl
theorem ts_176 : Cond.code y_XO_searchDown prog_4_method_7_code 5 none ∈ TsG := List.mem_of_getElem? (i := 226) rfl
theorem ts_177 : Cond.methodLink "ClassifySort$Order" 41 y_XO_searchDown ∈ TsG := List.mem_of_getElem? (i := 227) rfl
theorem ts_178 : Cond.instanceMethod y_XO_searchDown ∈ TsG := List.mem_of_getElem? (i := 228) rfl
theorem ts_179 : Cond.selects "ClassifySort$Order" y_XO_searchDown y_XO_searchDown ∈ TsG := List.mem_of_getElem? (i := 229) rfl
theorem ts_180 : Cond.code y_XK_allBelow prog_3_method_5_code 2 (some .int) ∈ TsG := List.mem_of_getElem? (i := 230) rfl
theorem ts_181 : Cond.methodLink "ClassifySort$Order" 74 y_XK_allBelow ∈ TsG := List.mem_of_getElem? (i := 231) rfl
theorem ts_182 : Cond.instanceMethod y_XK_allBelow ∈ TsG := List.mem_of_getElem? (i := 232) rfl
theorem ts_183 : Cond.selects "ClassifySort$Knowledge" y_XK_allBelow y_XK_allBelow ∈ TsG := List.mem_of_getElem? (i := 233) rfl
theorem ts_184 : Cond.code y_XK_strictlyBelow prog_3_method_7_code 2 (some .int) ∈ TsG := List.mem_of_getElem? (i := 234) rfl
theorem ts_185 : Cond.methodLink "ClassifySort$Order" 77 y_XK_strictlyBelow ∈ TsG := List.mem_of_getElem? (i := 235) rfl
theorem ts_186 : Cond.instanceMethod y_XK_strictlyBelow ∈ TsG := List.mem_of_getElem? (i := 236) rfl
theorem ts_187 : Cond.selects "ClassifySort$Knowledge" y_XK_strictlyBelow y_XK_strictlyBelow ∈ TsG := List.mem_of_getElem? (i := 237) rfl
theorem ts_188 : Cond.code y_XO_nextUp prog_4_method_10_code 6 (some .int) ∈ TsG := List.mem_of_getElem? (i := 238) rfl
theorem ts_189 : Cond.methodLink "ClassifySort$Order" 65 y_XO_nextUp ∈ TsG := List.mem_of_getElem? (i := 239) rfl
theorem ts_190 : Cond.instanceMethod y_XO_nextUp ∈ TsG := List.mem_of_getElem? (i := 240) rfl
theorem ts_191 : Cond.selects "ClassifySort$Order" y_XO_nextUp y_XO_nextUp ∈ TsG := List.mem_of_getElem? (i := 241) rfl
theorem ts_192 : Cond.code y_XO_searchUp prog_4_method_8_code 5 none ∈ TsG := List.mem_of_getElem? (i := 242) rfl
theorem ts_193 : Cond.methodLink "ClassifySort$Order" 45 y_XO_searchUp ∈ TsG := List.mem_of_getElem? (i := 243) rfl
theorem ts_194 : Cond.instanceMethod y_XO_searchUp ∈ TsG := List.mem_of_getElem? (i := 244) rfl
theorem ts_195 : Cond.selects "ClassifySort$Order" y_XO_searchUp y_XO_searchUp ∈ TsG := List.mem_of_getElem? (i := 245) rfl
theorem ts_196 : Cond.code y_XO_sort prog_4_method_5_code 3 (some .int) ∈ TsG := List.mem_of_getElem? (i := 246) rfl
theorem ts_197 : Cond.methodLink "ClassifySort" 121 y_XO_sort ∈ TsG := List.mem_of_getElem? (i := 247) rfl
theorem ts_198 : Cond.instanceMethod y_XO_sort ∈ TsG := List.mem_of_getElem? (i := 248) rfl
theorem ts_199 : Cond.selects "ClassifySort$Order" y_XO_sort y_XO_sort ∈ TsG := List.mem_of_getElem? (i := 249) rfl
theorem ts_200 : Cond.fieldLink "ClassifySort" 52 "ClassifySort" "questions" "I" ∈ TsG := List.mem_of_getElem? (i := 250) rfl
theorem ts_201 : Cond.code y_XO_isEmptyClass prog_4_method_4_code 2 (some .boolean) ∈ TsG := List.mem_of_getElem? (i := 251) rfl
theorem ts_202 : Cond.methodLink "ClassifySort" 124 y_XO_isEmptyClass ∈ TsG := List.mem_of_getElem? (i := 252) rfl
theorem ts_203 : Cond.instanceMethod y_XO_isEmptyClass ∈ TsG := List.mem_of_getElem? (i := 253) rfl
theorem ts_204 : Cond.selects "ClassifySort$Order" y_XO_isEmptyClass y_XO_isEmptyClass ∈ TsG := List.mem_of_getElem? (i := 254) rfl
theorem ts_205 : Cond.code y_XK_sameAs prog_3_method_8_code 2 (some .int) ∈ TsG := List.mem_of_getElem? (i := 255) rfl
theorem ts_206 : Cond.methodLink "ClassifySort$Order" 86 y_XK_sameAs ∈ TsG := List.mem_of_getElem? (i := 256) rfl
theorem ts_207 : Cond.instanceMethod y_XK_sameAs ∈ TsG := List.mem_of_getElem? (i := 257) rfl
theorem ts_208 : Cond.selects "ClassifySort$Knowledge" y_XK_sameAs y_XK_sameAs ∈ TsG := List.mem_of_getElem? (i := 258) rfl
theorem ts_209 : Cond.code y_XO_firstOfSame prog_4_method_15_code 4 (some .int) ∈ TsG := List.mem_of_getElem? (i := 259) rfl
theorem ts_210 : Cond.methodLink "ClassifySort" 134 y_XO_firstOfSame ∈ TsG := List.mem_of_getElem? (i := 260) rfl
theorem ts_211 : Cond.instanceMethod y_XO_firstOfSame ∈ TsG := List.mem_of_getElem? (i := 261) rfl
theorem ts_212 : Cond.selects "ClassifySort$Order" y_XO_firstOfSame y_XO_firstOfSame ∈ TsG := List.mem_of_getElem? (i := 262) rfl
theorem ts_213 : Cond.methodLink "ClassifySort" 160 y_X_has ∈ TsG := List.mem_of_getElem? (i := 263) rfl
theorem ts_214 : Cond.code y_X_pick prog_1_method_26_code 4 (some .int) ∈ TsG := List.mem_of_getElem? (i := 264) rfl
theorem ts_215 : Cond.methodLink "ClassifySort" 137 y_X_pick ∈ TsG := List.mem_of_getElem? (i := 265) rfl
theorem ts_216 : Cond.static y_X_pick ∈ TsG := List.mem_of_getElem? (i := 266) rfl
theorem ts_217 : Cond.code y_XO_directlyAbove prog_4_method_11_code 5 (some .int) ∈ TsG := List.mem_of_getElem? (i := 267) rfl
theorem ts_218 : Cond.methodLink "ClassifySort" 131 y_XO_directlyAbove ∈ TsG := List.mem_of_getElem? (i := 268) rfl
theorem ts_219 : Cond.instanceMethod y_XO_directlyAbove ∈ TsG := List.mem_of_getElem? (i := 269) rfl
theorem ts_220 : Cond.selects "ClassifySort$Order" y_XO_directlyAbove y_XO_directlyAbove ∈ TsG := List.mem_of_getElem? (i := 270) rfl
theorem ts_221 : Cond.code y_XO_directlyBelow prog_4_method_12_code 5 (some .int) ∈ TsG := List.mem_of_getElem? (i := 271) rfl
theorem ts_222 : Cond.methodLink "ClassifySort$Order" 83 y_XO_directlyBelow ∈ TsG := List.mem_of_getElem? (i := 272) rfl
theorem ts_223 : Cond.instanceMethod y_XO_directlyBelow ∈ TsG := List.mem_of_getElem? (i := 273) rfl
theorem ts_224 : Cond.selects "ClassifySort$Order" y_XO_directlyBelow y_XO_directlyBelow ∈ TsG := List.mem_of_getElem? (i := 274) rfl
theorem ts_225 : Cond.code y_XO_lowestAmong prog_4_method_14_code 4 (some .int) ∈ TsG := List.mem_of_getElem? (i := 275) rfl
theorem ts_226 : Cond.methodLink "ClassifySort$Order" 80 y_XO_lowestAmong ∈ TsG := List.mem_of_getElem? (i := 276) rfl
theorem ts_227 : Cond.instanceMethod y_XO_lowestAmong ∈ TsG := List.mem_of_getElem? (i := 277) rfl
theorem ts_228 : Cond.selects "ClassifySort$Order" y_XO_lowestAmong y_XO_lowestAmong ∈ TsG := List.mem_of_getElem? (i := 278) rfl
theorem ts_229 : Cond.code y_XO_lowest prog_4_method_13_code 1 (some .int) ∈ TsG := List.mem_of_getElem? (i := 279) rfl
theorem ts_230 : Cond.methodLink "ClassifySort" 127 y_XO_lowest ∈ TsG := List.mem_of_getElem? (i := 280) rfl
theorem ts_231 : Cond.instanceMethod y_XO_lowest ∈ TsG := List.mem_of_getElem? (i := 281) rfl
theorem ts_232 : Cond.selects "ClassifySort$Order" y_XO_lowest y_XO_lowest ∈ TsG := List.mem_of_getElem? (i := 282) rfl
theorem ts_233 : Cond.methodLink "ClassifySort" 140 y_XO_directlyBelow ∈ TsG := List.mem_of_getElem? (i := 283) rfl
theorem ts_234 : Cond.methodLink "ClassifySort" 143 y_XK_sameAs ∈ TsG := List.mem_of_getElem? (i := 284) rfl
theorem ts_235 : Cond.code y_XO_emptyClasses prog_4_method_3_code 1 (some .int) ∈ TsG := List.mem_of_getElem? (i := 285) rfl
theorem ts_236 : Cond.methodLink "ClassifySort" 146 y_XO_emptyClasses ∈ TsG := List.mem_of_getElem? (i := 286) rfl
theorem ts_237 : Cond.instanceMethod y_XO_emptyClasses ∈ TsG := List.mem_of_getElem? (i := 287) rfl
theorem ts_238 : Cond.selects "ClassifySort$Order" y_XO_emptyClasses y_XO_emptyClasses ∈ TsG := List.mem_of_getElem? (i := 288) rfl
theorem ts_239 : Cond.code y_XK_openOf prog_3_method_9_code 2 (some .int) ∈ TsG := List.mem_of_getElem? (i := 289) rfl
theorem ts_240 : Cond.methodLink "ClassifySort" 149 y_XK_openOf ∈ TsG := List.mem_of_getElem? (i := 290) rfl
theorem ts_241 : Cond.instanceMethod y_XK_openOf ∈ TsG := List.mem_of_getElem? (i := 291) rfl
theorem ts_242 : Cond.selects "ClassifySort$Knowledge" y_XK_openOf y_XK_openOf ∈ TsG := List.mem_of_getElem? (i := 292) rfl
theorem ts_243 : Cond.code y_X_isThing prog_1_method_20_code 2 (some .boolean) ∈ TsG := List.mem_of_getElem? (i := 293) rfl
theorem ts_244 : Cond.methodLink "ClassifySort" 157 y_X_isThing ∈ TsG := List.mem_of_getElem? (i := 294) rfl
theorem ts_245 : Cond.instanceMethod y_X_isThing ∈ TsG := List.mem_of_getElem? (i := 295) rfl
theorem ts_246 : Cond.selects "ClassifySort" y_X_isThing y_X_isThing ∈ TsG := List.mem_of_getElem? (i := 296) rfl
theorem ts_247 : Cond.fieldLink "ClassifySort" 41 "ClassifySort" "toldClasses" "[I" ∈ TsG := List.mem_of_getElem? (i := 297) rfl
theorem ts_248 : Cond.code y_XR_facts prog_5_method_3_code 1 (some .int) ∈ TsG := List.mem_of_getElem? (i := 298) rfl
theorem ts_249 : Cond.methodLink "ClassifySort" 164 y_XR_facts ∈ TsG := List.mem_of_getElem? (i := 299) rfl
theorem ts_250 : Cond.instanceMethod y_XR_facts ∈ TsG := List.mem_of_getElem? (i := 300) rfl
theorem ts_251 : Cond.selects "ClassifySort$Reasoner" y_XR_facts y_XR_facts ∈ TsG := List.mem_of_getElem? (i := 301) rfl
theorem ts_252 : Cond.methodLink "ClassifySort" 167 y_XO_lowestAmong ∈ TsG := List.mem_of_getElem? (i := 302) rfl
theorem ts_253 : Cond.methodLink "ClassifySort$Reasoner" 54 y_XA_leftOf ∈ TsG := List.mem_of_getElem? (i := 303) rfl
theorem ts_254 : Cond.code y_XR_neededSteps prog_5_method_6_code 4 (some .int) ∈ TsG := List.mem_of_getElem? (i := 304) rfl
theorem ts_255 : Cond.methodLink "ClassifySort" 170 y_XR_neededSteps ∈ TsG := List.mem_of_getElem? (i := 305) rfl
theorem ts_256 : Cond.instanceMethod y_XR_neededSteps ∈ TsG := List.mem_of_getElem? (i := 306) rfl
theorem ts_257 : Cond.selects "ClassifySort$Reasoner" y_XR_neededSteps y_XR_neededSteps ∈ TsG := List.mem_of_getElem? (i := 307) rfl
theorem ts_258 : Cond.code y_XR_firedAt prog_5_method_4_code 2 (some .int) ∈ TsG := List.mem_of_getElem? (i := 308) rfl
theorem ts_259 : Cond.methodLink "ClassifySort" 173 y_XR_firedAt ∈ TsG := List.mem_of_getElem? (i := 309) rfl
theorem ts_260 : Cond.instanceMethod y_XR_firedAt ∈ TsG := List.mem_of_getElem? (i := 310) rfl
theorem ts_261 : Cond.selects "ClassifySort$Reasoner" y_XR_firedAt y_XR_firedAt ∈ TsG := List.mem_of_getElem? (i := 311) rfl
theorem ts_262 : Cond.code y_XA_thereNow prog_2_method_4_code 1 (some .int) ∈ TsG := List.mem_of_getElem? (i := 312) rfl
theorem ts_263 : Cond.methodLink "ClassifySort" 176 y_XA_thereNow ∈ TsG := List.mem_of_getElem? (i := 313) rfl
theorem ts_264 : Cond.instanceMethod y_XA_thereNow ∈ TsG := List.mem_of_getElem? (i := 314) rfl
theorem ts_265 : Cond.selects "ClassifySort$Axioms" y_XA_thereNow y_XA_thereNow ∈ TsG := List.mem_of_getElem? (i := 315) rfl
theorem ts_266 : Cond.code y_XO_placedClasses prog_4_method_2_code 1 (some .int) ∈ TsG := List.mem_of_getElem? (i := 316) rfl
theorem ts_267 : Cond.methodLink "ClassifySort" 179 y_XO_placedClasses ∈ TsG := List.mem_of_getElem? (i := 317) rfl
theorem ts_268 : Cond.instanceMethod y_XO_placedClasses ∈ TsG := List.mem_of_getElem? (i := 318) rfl
theorem ts_269 : Cond.selects "ClassifySort$Order" y_XO_placedClasses y_XO_placedClasses ∈ TsG := List.mem_of_getElem? (i := 319) rfl
theorem ts_270 : Cond.fieldLink "ClassifySortModel" 60 "ClassifySortModel" "classes" "I" ∈ TsG := List.mem_of_getElem? (i := 320) rfl
theorem ts_271 : Cond.fieldLink "ClassifySortModel" 97 "ClassifySortModel" "sorted" "Z" ∈ TsG := List.mem_of_getElem? (i := 321) rfl
theorem ts_272 : Cond.fieldLink "ClassifySortModel" 67 "ClassifySortModel" "axioms" "I" ∈ TsG := List.mem_of_getElem? (i := 322) rfl
theorem ts_273 : Cond.fieldLink "ClassifySortModel" 23 "ClassifySortModel" "there" "[Z" ∈ TsG := List.mem_of_getElem? (i := 323) rfl
theorem ts_274 : Cond.fieldLink "ClassifySortModel" 13 "ClassifySortModel" "left" "[I" ∈ TsG := List.mem_of_getElem? (i := 324) rfl
theorem ts_275 : Cond.fieldLink "ClassifySortModel" 17 "ClassifySortModel" "other" "[I" ∈ TsG := List.mem_of_getElem? (i := 325) rfl
theorem ts_276 : Cond.fieldLink "ClassifySortModel" 20 "ClassifySortModel" "right" "[I" ∈ TsG := List.mem_of_getElem? (i := 326) rfl
theorem ts_277 : Cond.code y_M_isItself prog_7_method_6_code 5 (some .boolean) ∈ TsG := List.mem_of_getElem? (i := 327) rfl
theorem ts_278 : Cond.initialized "ClassifySortModel" ∈ TsG := List.mem_of_getElem? (i := 328) rfl
theorem ts_279 : Cond.methodLink "ClassifySortModel" 70 y_M_isItself ∈ TsG := List.mem_of_getElem? (i := 329) rfl
theorem ts_280 : Cond.instanceMethod y_M_isItself ∈ TsG := List.mem_of_getElem? (i := 330) rfl
theorem ts_281 : Cond.selects "ClassifySortModel" y_M_isItself y_M_isItself ∈ TsG := List.mem_of_getElem? (i := 331) rfl
theorem ts_282 : Cond.fieldLink "ClassifySortModel" 30 "ClassifySortModel" "state" "[I" ∈ TsG := List.mem_of_getElem? (i := 332) rfl
theorem ts_283 : Cond.code y_M_tellItself prog_7_method_7_code 3 none ∈ TsG := List.mem_of_getElem? (i := 333) rfl
theorem ts_284 : Cond.methodLink "ClassifySortModel" 83 y_M_tellItself ∈ TsG := List.mem_of_getElem? (i := 334) rfl
theorem ts_285 : Cond.instanceMethod y_M_tellItself ∈ TsG := List.mem_of_getElem? (i := 335) rfl
theorem ts_286 : Cond.selects "ClassifySortModel" y_M_tellItself y_M_tellItself ∈ TsG := List.mem_of_getElem? (i := 336) rfl
theorem ts_287 : Cond.code y_M_isHere prog_7_method_8_code 2 (some .boolean) ∈ TsG := List.mem_of_getElem? (i := 337) rfl
theorem ts_288 : Cond.methodLink "ClassifySortModel" 74 y_M_isHere ∈ TsG := List.mem_of_getElem? (i := 338) rfl
theorem ts_289 : Cond.instanceMethod y_M_isHere ∈ TsG := List.mem_of_getElem? (i := 339) rfl
theorem ts_290 : Cond.selects "ClassifySortModel" y_M_isHere y_M_isHere ∈ TsG := List.mem_of_getElem? (i := 340) rfl
theorem ts_291 : Cond.code y_M_below prog_7_method_5_code 3 (some .boolean) ∈ TsG := List.mem_of_getElem? (i := 341) rfl
theorem ts_292 : Cond.methodLink "ClassifySortModel" 77 y_M_below ∈ TsG := List.mem_of_getElem? (i := 342) rfl
theorem ts_293 : Cond.instanceMethod y_M_below ∈ TsG := List.mem_of_getElem? (i := 343) rfl
theorem ts_294 : Cond.selects "ClassifySortModel" y_M_below y_M_below ∈ TsG := List.mem_of_getElem? (i := 344) rfl
theorem ts_295 : Cond.code y_M_spreadNo prog_7_method_10_code 7 (some .boolean) ∈ TsG := List.mem_of_getElem? (i := 345) rfl
theorem ts_296 : Cond.methodLink "ClassifySortModel" 80 y_M_spreadNo ∈ TsG := List.mem_of_getElem? (i := 346) rfl
theorem ts_297 : Cond.instanceMethod y_M_spreadNo ∈ TsG := List.mem_of_getElem? (i := 347) rfl
theorem ts_298 : Cond.selects "ClassifySortModel" y_M_spreadNo y_M_spreadNo ∈ TsG := List.mem_of_getElem? (i := 348) rfl
theorem ts_299 : Cond.code y_M_closeOnce prog_7_method_9_code 5 (some .boolean) ∈ TsG := List.mem_of_getElem? (i := 349) rfl
theorem ts_300 : Cond.methodLink "ClassifySortModel" 86 y_M_closeOnce ∈ TsG := List.mem_of_getElem? (i := 350) rfl
theorem ts_301 : Cond.instanceMethod y_M_closeOnce ∈ TsG := List.mem_of_getElem? (i := 351) rfl
theorem ts_302 : Cond.selects "ClassifySortModel" y_M_closeOnce y_M_closeOnce ∈ TsG := List.mem_of_getElem? (i := 352) rfl
theorem ts_303 : Cond.code y_M_close prog_7_method_11_code 2 none ∈ TsG := List.mem_of_getElem? (i := 353) rfl
theorem ts_304 : Cond.methodLink "ClassifySortModel" 101 y_M_close ∈ TsG := List.mem_of_getElem? (i := 354) rfl
theorem ts_305 : Cond.instanceMethod y_M_close ∈ TsG := List.mem_of_getElem? (i := 355) rfl
theorem ts_306 : Cond.selects "ClassifySortModel" y_M_close y_M_close ∈ TsG := List.mem_of_getElem? (i := 356) rfl
theorem ts_307 : Cond.fieldLink "ClassifySortModel" 104 "ClassifySortModel" "things" "I" ∈ TsG := List.mem_of_getElem? (i := 357) rfl
theorem ts_308 : Cond.code y_M_isClass prog_7_method_3_code 2 (some .boolean) ∈ TsG := List.mem_of_getElem? (i := 358) rfl
theorem ts_309 : Cond.methodLink "ClassifySortModel" 63 y_M_isClass ∈ TsG := List.mem_of_getElem? (i := 359) rfl
theorem ts_310 : Cond.instanceMethod y_M_isClass ∈ TsG := List.mem_of_getElem? (i := 360) rfl
theorem ts_311 : Cond.selects "ClassifySortModel" y_M_isClass y_M_isClass ∈ TsG := List.mem_of_getElem? (i := 361) rfl
theorem ts_312 : Cond.fieldLink "ClassifySortModel" 54 "ClassifySortModel" "module" "[Z" ∈ TsG := List.mem_of_getElem? (i := 362) rfl
theorem ts_313 : Cond.code y_M_isTouched prog_7_method_17_code 7 (some .boolean) ∈ TsG := List.mem_of_getElem? (i := 363) rfl
theorem ts_314 : Cond.methodLink "ClassifySortModel" 107 y_M_isTouched ∈ TsG := List.mem_of_getElem? (i := 364) rfl
theorem ts_315 : Cond.instanceMethod y_M_isTouched ∈ TsG := List.mem_of_getElem? (i := 365) rfl
theorem ts_316 : Cond.selects "ClassifySortModel" y_M_isTouched y_M_isTouched ∈ TsG := List.mem_of_getElem? (i := 366) rfl
theorem ts_317 : Cond.code y_M_forget prog_7_method_18_code 6 none ∈ TsG := List.mem_of_getElem? (i := 367) rfl
theorem ts_318 : Cond.methodLink "ClassifySortModel" 110 y_M_forget ∈ TsG := List.mem_of_getElem? (i := 368) rfl
theorem ts_319 : Cond.instanceMethod y_M_forget ∈ TsG := List.mem_of_getElem? (i := 369) rfl
theorem ts_320 : Cond.selects "ClassifySortModel" y_M_forget y_M_forget ∈ TsG := List.mem_of_getElem? (i := 370) rfl
theorem ts_321 : Cond.fieldLink "ClassifySortModel" 33 "ClassifySortModel" "before" "[I" ∈ TsG := List.mem_of_getElem? (i := 371) rfl
theorem ts_322 : Cond.code y_M_openPairs prog_7_method_21_code 3 (some .int) ∈ TsG := List.mem_of_getElem? (i := 372) rfl
theorem ts_323 : Cond.methodLink "ClassifySortModel" 114 y_M_openPairs ∈ TsG := List.mem_of_getElem? (i := 373) rfl
theorem ts_324 : Cond.instanceMethod y_M_openPairs ∈ TsG := List.mem_of_getElem? (i := 374) rfl
theorem ts_325 : Cond.selects "ClassifySortModel" y_M_openPairs y_M_openPairs ∈ TsG := List.mem_of_getElem? (i := 375) rfl
theorem ts_326 : Cond.fieldLink "ClassifySortModel" 7 "ClassifySortModel" "fuel" "I" ∈ TsG := List.mem_of_getElem? (i := 376) rfl
theorem ts_327 : Cond.code y_M_goalOf prog_7_method_4_code 2 (some .int) ∈ TsG := List.mem_of_getElem? (i := 377) rfl
theorem ts_328 : Cond.methodLink "ClassifySortModel" 118 y_M_goalOf ∈ TsG := List.mem_of_getElem? (i := 378) rfl
theorem ts_329 : Cond.instanceMethod y_M_goalOf ∈ TsG := List.mem_of_getElem? (i := 379) rfl
theorem ts_330 : Cond.selects "ClassifySortModel" y_M_goalOf y_M_goalOf ∈ TsG := List.mem_of_getElem? (i := 380) rfl
theorem ts_331 : Cond.fieldLink "ClassifySortModel" 42 "ClassifySortModel" "fact" "[Z" ∈ TsG := List.mem_of_getElem? (i := 381) rfl
theorem ts_332 : Cond.fieldLink "ClassifySortModel" 90 "ClassifySortModel" "firedCount" "I" ∈ TsG := List.mem_of_getElem? (i := 382) rfl
theorem ts_333 : Cond.fieldLink "ClassifySortModel" 45 "ClassifySortModel" "maker" "[I" ∈ TsG := List.mem_of_getElem? (i := 383) rfl
theorem ts_334 : Cond.fieldLink "ClassifySortModel" 48 "ClassifySortModel" "fired" "[I" ∈ TsG := List.mem_of_getElem? (i := 384) rfl
theorem ts_335 : Cond.code y_M_reason prog_7_method_12_code 5 (some .int) ∈ TsG := List.mem_of_getElem? (i := 385) rfl
theorem ts_336 : Cond.methodLink "ClassifySortModel" 93 y_M_reason ∈ TsG := List.mem_of_getElem? (i := 386) rfl
theorem ts_337 : Cond.instanceMethod y_M_reason ∈ TsG := List.mem_of_getElem? (i := 387) rfl
theorem ts_338 : Cond.selects "ClassifySortModel" y_M_reason y_M_reason ∈ TsG := List.mem_of_getElem? (i := 388) rfl
theorem ts_339 : Cond.code y_M_reasonAlone prog_7_method_13_code 4 (some .int) ∈ TsG := List.mem_of_getElem? (i := 389) rfl
theorem ts_340 : Cond.methodLink "ClassifySortModel" 121 y_M_reasonAlone ∈ TsG := List.mem_of_getElem? (i := 390) rfl
theorem ts_341 : Cond.instanceMethod y_M_reasonAlone ∈ TsG := List.mem_of_getElem? (i := 391) rfl
theorem ts_342 : Cond.selects "ClassifySortModel" y_M_reasonAlone y_M_reasonAlone ∈ TsG := List.mem_of_getElem? (i := 392) rfl
theorem ts_343 : Cond.fieldLink "ClassifySortModel" 125 "ClassifySortModel" "asked" "I" ∈ TsG := List.mem_of_getElem? (i := 393) rfl
theorem ts_344 : Cond.fieldLink "ClassifySortModel" 36 "ClassifySortModel" "placed" "[Z" ∈ TsG := List.mem_of_getElem? (i := 394) rfl
theorem ts_345 : Cond.code y_M_look prog_7_method_25_code 3 (some .boolean) ∈ TsG := List.mem_of_getElem? (i := 395) rfl
theorem ts_346 : Cond.methodLink "ClassifySortModel" 138 y_M_look ∈ TsG := List.mem_of_getElem? (i := 396) rfl
theorem ts_347 : Cond.instanceMethod y_M_look ∈ TsG := List.mem_of_getElem? (i := 397) rfl
theorem ts_348 : Cond.selects "ClassifySortModel" y_M_look y_M_look ∈ TsG := List.mem_of_getElem? (i := 398) rfl
theorem ts_349 : Cond.fieldLink "ClassifySortModel" 39 "ClassifySortModel" "looked" "[Z" ∈ TsG := List.mem_of_getElem? (i := 399) rfl
theorem ts_350 : Cond.code y_M_isUnder prog_7_method_26_code 3 (some .boolean) ∈ TsG := List.mem_of_getElem? (i := 400) rfl
theorem ts_351 : Cond.methodLink "ClassifySortModel" 128 y_M_isUnder ∈ TsG := List.mem_of_getElem? (i := 401) rfl
theorem ts_352 : Cond.instanceMethod y_M_isUnder ∈ TsG := List.mem_of_getElem? (i := 402) rfl
theorem ts_353 : Cond.selects "ClassifySortModel" y_M_isUnder y_M_isUnder ∈ TsG := List.mem_of_getElem? (i := 403) rfl
theorem ts_354 : Cond.code y_M_isDirect prog_7_method_27_code 5 (some .boolean) ∈ TsG := List.mem_of_getElem? (i := 404) rfl
theorem ts_355 : Cond.methodLink "ClassifySortModel" 131 y_M_isDirect ∈ TsG := List.mem_of_getElem? (i := 405) rfl
theorem ts_356 : Cond.instanceMethod y_M_isDirect ∈ TsG := List.mem_of_getElem? (i := 406) rfl
theorem ts_357 : Cond.selects "ClassifySortModel" y_M_isDirect y_M_isDirect ∈ TsG := List.mem_of_getElem? (i := 407) rfl
theorem ts_358 : Cond.code y_M_nextFor prog_7_method_28_code 7 (some .int) ∈ TsG := List.mem_of_getElem? (i := 408) rfl
theorem ts_359 : Cond.methodLink "ClassifySortModel" 134 y_M_nextFor ∈ TsG := List.mem_of_getElem? (i := 409) rfl
theorem ts_360 : Cond.instanceMethod y_M_nextFor ∈ TsG := List.mem_of_getElem? (i := 410) rfl
theorem ts_361 : Cond.selects "ClassifySortModel" y_M_nextFor y_M_nextFor ∈ TsG := List.mem_of_getElem? (i := 411) rfl
theorem ts_362 : Cond.code y_M_go prog_7_method_29_code 5 none ∈ TsG := List.mem_of_getElem? (i := 412) rfl
theorem ts_363 : Cond.methodLink "ClassifySortModel" 141 y_M_go ∈ TsG := List.mem_of_getElem? (i := 413) rfl
theorem ts_364 : Cond.instanceMethod y_M_go ∈ TsG := List.mem_of_getElem? (i := 414) rfl
theorem ts_365 : Cond.selects "ClassifySortModel" y_M_go y_M_go ∈ TsG := List.mem_of_getElem? (i := 415) rfl
theorem ts_366 : Cond.fieldLink "ClassifySortModel" 145 "ClassifySortModel" "questions" "I" ∈ TsG := List.mem_of_getElem? (i := 416) rfl
theorem ts_367 : Cond.code y_M_isSecond prog_7_method_31_code 4 (some .boolean) ∈ TsG := List.mem_of_getElem? (i := 417) rfl
theorem ts_368 : Cond.methodLink "ClassifySortModel" 148 y_M_isSecond ∈ TsG := List.mem_of_getElem? (i := 418) rfl
theorem ts_369 : Cond.instanceMethod y_M_isSecond ∈ TsG := List.mem_of_getElem? (i := 419) rfl
theorem ts_370 : Cond.selects "ClassifySortModel" y_M_isSecond y_M_isSecond ∈ TsG := List.mem_of_getElem? (i := 420) rfl
theorem ts_371 : Cond.code y_M_hasBelow prog_7_method_32_code 4 (some .boolean) ∈ TsG := List.mem_of_getElem? (i := 421) rfl
theorem ts_372 : Cond.methodLink "ClassifySortModel" 151 y_M_hasBelow ∈ TsG := List.mem_of_getElem? (i := 422) rfl
theorem ts_373 : Cond.instanceMethod y_M_hasBelow ∈ TsG := List.mem_of_getElem? (i := 423) rfl
theorem ts_374 : Cond.selects "ClassifySortModel" y_M_hasBelow y_M_hasBelow ∈ TsG := List.mem_of_getElem? (i := 424) rfl
theorem ts_375 : Cond.fieldLink "ClassifySortModel" 27 "ClassifySortModel" "member" "[Z" ∈ TsG := List.mem_of_getElem? (i := 425) rfl
theorem ts_376 : Cond.code y_M_reasonThing prog_7_method_14_code 4 (some .int) ∈ TsG := List.mem_of_getElem? (i := 426) rfl
theorem ts_377 : Cond.methodLink "ClassifySortModel" 154 y_M_reasonThing ∈ TsG := List.mem_of_getElem? (i := 427) rfl
theorem ts_378 : Cond.instanceMethod y_M_reasonThing ∈ TsG := List.mem_of_getElem? (i := 428) rfl
theorem ts_379 : Cond.selects "ClassifySortModel" y_M_reasonThing y_M_reasonThing ∈ TsG := List.mem_of_getElem? (i := 429) rfl
theorem ts_380 : Cond.code y_M_isIn prog_7_method_39_code 3 (some .boolean) ∈ TsG := List.mem_of_getElem? (i := 430) rfl
theorem ts_381 : Cond.methodLink "ClassifySortModel" 157 y_M_isIn ∈ TsG := List.mem_of_getElem? (i := 431) rfl
theorem ts_382 : Cond.instanceMethod y_M_isIn ∈ TsG := List.mem_of_getElem? (i := 432) rfl
theorem ts_383 : Cond.selects "ClassifySortModel" y_M_isIn y_M_isIn ∈ TsG := List.mem_of_getElem? (i := 433) rfl
theorem ts_384 : Cond.fieldLink "ClassifySortModel" 51 "ClassifySortModel" "needed" "[Z" ∈ TsG := List.mem_of_getElem? (i := 434) rfl
theorem in_0 : ∀ w ∈ u_ws "ClassifySort" T_X 9, w ∈ TsG := by
  intro w hw
  obtain ⟨k, hk, rfl⟩ := List.mem_map.mp hw
  have hk := List.mem_range.mp hk
  match k, hk with
  | 0, _ => exact List.mem_of_getElem? (i := 0) rfl
  | 1, _ => exact List.mem_of_getElem? (i := 1) rfl
  | 2, _ => exact List.mem_of_getElem? (i := 2) rfl
  | 3, _ => exact List.mem_of_getElem? (i := 3) rfl
  | 4, _ => exact List.mem_of_getElem? (i := 4) rfl
  | 5, _ => exact List.mem_of_getElem? (i := 5) rfl
  | 6, _ => exact List.mem_of_getElem? (i := 6) rfl
  | 7, _ => exact List.mem_of_getElem? (i := 7) rfl
  | 8, _ => exact List.mem_of_getElem? (i := 8) rfl
  | k + 9, h => exact absurd h (by omega)
theorem in_1 : ∀ w ∈ u_ws "ClassifySort$Axioms" T_XA 4, w ∈ TsG := by
  intro w hw
  obtain ⟨k, hk, rfl⟩ := List.mem_map.mp hw
  have hk := List.mem_range.mp hk
  match k, hk with
  | 0, _ => exact List.mem_of_getElem? (i := 9) rfl
  | 1, _ => exact List.mem_of_getElem? (i := 10) rfl
  | 2, _ => exact List.mem_of_getElem? (i := 11) rfl
  | 3, _ => exact List.mem_of_getElem? (i := 12) rfl
  | k + 4, h => exact absurd h (by omega)
theorem in_2 : ∀ w ∈ u_ws "ClassifySort$Reasoner" T_XR 5, w ∈ TsG := by
  intro w hw
  obtain ⟨k, hk, rfl⟩ := List.mem_map.mp hw
  have hk := List.mem_range.mp hk
  match k, hk with
  | 0, _ => exact List.mem_of_getElem? (i := 13) rfl
  | 1, _ => exact List.mem_of_getElem? (i := 14) rfl
  | 2, _ => exact List.mem_of_getElem? (i := 15) rfl
  | 3, _ => exact List.mem_of_getElem? (i := 16) rfl
  | 4, _ => exact List.mem_of_getElem? (i := 17) rfl
  | k + 5, h => exact absurd h (by omega)
theorem in_3 : ∀ w ∈ u_ws "ClassifySort$Knowledge" T_XK 4, w ∈ TsG := by
  intro w hw
  obtain ⟨k, hk, rfl⟩ := List.mem_map.mp hw
  have hk := List.mem_range.mp hk
  match k, hk with
  | 0, _ => exact List.mem_of_getElem? (i := 18) rfl
  | 1, _ => exact List.mem_of_getElem? (i := 19) rfl
  | 2, _ => exact List.mem_of_getElem? (i := 20) rfl
  | 3, _ => exact List.mem_of_getElem? (i := 21) rfl
  | k + 4, h => exact absurd h (by omega)
theorem in_4 : ∀ w ∈ u_ws "ClassifySort$Order" T_XO 5, w ∈ TsG := by
  intro w hw
  obtain ⟨k, hk, rfl⟩ := List.mem_map.mp hw
  have hk := List.mem_range.mp hk
  match k, hk with
  | 0, _ => exact List.mem_of_getElem? (i := 22) rfl
  | 1, _ => exact List.mem_of_getElem? (i := 23) rfl
  | 2, _ => exact List.mem_of_getElem? (i := 24) rfl
  | 3, _ => exact List.mem_of_getElem? (i := 25) rfl
  | 4, _ => exact List.mem_of_getElem? (i := 26) rfl
  | k + 5, h => exact absurd h (by omega)
theorem in_5 : ∀ w ∈ u_ws "ClassifySortModel" T_M 23, w ∈ TsG := by
  intro w hw
  obtain ⟨k, hk, rfl⟩ := List.mem_map.mp hw
  have hk := List.mem_range.mp hk
  match k, hk with
  | 0, _ => exact List.mem_of_getElem? (i := 27) rfl
  | 1, _ => exact List.mem_of_getElem? (i := 28) rfl
  | 2, _ => exact List.mem_of_getElem? (i := 29) rfl
  | 3, _ => exact List.mem_of_getElem? (i := 30) rfl
  | 4, _ => exact List.mem_of_getElem? (i := 31) rfl
  | 5, _ => exact List.mem_of_getElem? (i := 32) rfl
  | 6, _ => exact List.mem_of_getElem? (i := 33) rfl
  | 7, _ => exact List.mem_of_getElem? (i := 34) rfl
  | 8, _ => exact List.mem_of_getElem? (i := 35) rfl
  | 9, _ => exact List.mem_of_getElem? (i := 36) rfl
  | 10, _ => exact List.mem_of_getElem? (i := 37) rfl
  | 11, _ => exact List.mem_of_getElem? (i := 38) rfl
  | 12, _ => exact List.mem_of_getElem? (i := 39) rfl
  | 13, _ => exact List.mem_of_getElem? (i := 40) rfl
  | 14, _ => exact List.mem_of_getElem? (i := 41) rfl
  | 15, _ => exact List.mem_of_getElem? (i := 42) rfl
  | 16, _ => exact List.mem_of_getElem? (i := 43) rfl
  | 17, _ => exact List.mem_of_getElem? (i := 44) rfl
  | 18, _ => exact List.mem_of_getElem? (i := 45) rfl
  | 19, _ => exact List.mem_of_getElem? (i := 46) rfl
  | 20, _ => exact List.mem_of_getElem? (i := 47) rfl
  | 21, _ => exact List.mem_of_getElem? (i := 48) rfl
  | 22, _ => exact List.mem_of_getElem? (i := 49) rfl
  | k + 23, h => exact absurd h (by omega)
end
section
def wX (s : jS) (a : jB) : jW := [.inr (0, [.ref 1, .ref 4, .ref 6, .ref 11, .ref 12, .int (s 0), .int (s 1), .int (s 2), .int (s 3)]), .inr (1, [.ref 2, .ref 3, .int (s 4), .int (s 5)]), .inl (0, 40, a 2), .inl (0, 40, a 3), .inr (2, [.ref 1, .ref 5, .int (s 6), .int (s 7), .int (s 8)]), .inl (0, 20, a 5), .inr (3, [.ref 7, .ref 8, .ref 9, .ref 10]), .inl (0, 21, a 7), .inl (0, 21, a 8), .inl (0, 21, a 9), .inl (0, 21, a 10), .inr (4, [.ref 6, .ref 4, .int (s 9), .int (s 10), .int (s 11)]), .inl (0, 8, a 12)]
theorem wX_at0 (s : jS) (a : jB) : (wX s a)[0]? = some (.inr (0, [.ref 1, .ref 4, .ref 6, .ref 11, .ref 12, .int (s 0), .int (s 1), .int (s 2), .int (s 3)])) := rfl
theorem wX_at1 (s : jS) (a : jB) : (wX s a)[1]? = some (.inr (1, [.ref 2, .ref 3, .int (s 4), .int (s 5)])) := rfl
theorem wX_at2 (s : jS) (a : jB) : (wX s a)[2]? = some (.inl (0, 40, a 2)) := rfl
theorem wX_at3 (s : jS) (a : jB) : (wX s a)[3]? = some (.inl (0, 40, a 3)) := rfl
theorem wX_at4 (s : jS) (a : jB) : (wX s a)[4]? = some (.inr (2, [.ref 1, .ref 5, .int (s 6), .int (s 7), .int (s 8)])) := rfl
theorem wX_at5 (s : jS) (a : jB) : (wX s a)[5]? = some (.inl (0, 20, a 5)) := rfl
theorem wX_at6 (s : jS) (a : jB) : (wX s a)[6]? = some (.inr (3, [.ref 7, .ref 8, .ref 9, .ref 10])) := rfl
theorem wX_at7 (s : jS) (a : jB) : (wX s a)[7]? = some (.inl (0, 21, a 7)) := rfl
theorem wX_at8 (s : jS) (a : jB) : (wX s a)[8]? = some (.inl (0, 21, a 8)) := rfl
theorem wX_at9 (s : jS) (a : jB) : (wX s a)[9]? = some (.inl (0, 21, a 9)) := rfl
theorem wX_at10 (s : jS) (a : jB) : (wX s a)[10]? = some (.inl (0, 21, a 10)) := rfl
theorem wX_at11 (s : jS) (a : jB) : (wX s a)[11]? = some (.inr (4, [.ref 6, .ref 4, .int (s 9), .int (s 10), .int (s 11)])) := rfl
theorem wX_at12 (s : jS) (a : jB) : (wX s a)[12]? = some (.inl (0, 8, a 12)) := rfl
theorem wX_put0 (s : jS) (a : jB) (x : Int32) : (wX s a).set 0 (.inr (0, ([.ref 1, .ref 4, .ref 6, .ref 11, .ref 12, .int (s 0), .int (s 1), .int (s 2), .int (s 3)] : List Value).set 5 (.int x))) = wX (upd s 0 x) a := rfl
theorem wX_put1 (s : jS) (a : jB) (x : Int32) : (wX s a).set 0 (.inr (0, ([.ref 1, .ref 4, .ref 6, .ref 11, .ref 12, .int (s 0), .int (s 1), .int (s 2), .int (s 3)] : List Value).set 6 (.int x))) = wX (upd s 1 x) a := rfl
theorem wX_put2 (s : jS) (a : jB) (x : Int32) : (wX s a).set 0 (.inr (0, ([.ref 1, .ref 4, .ref 6, .ref 11, .ref 12, .int (s 0), .int (s 1), .int (s 2), .int (s 3)] : List Value).set 7 (.int x))) = wX (upd s 2 x) a := rfl
theorem wX_put3 (s : jS) (a : jB) (x : Int32) : (wX s a).set 0 (.inr (0, ([.ref 1, .ref 4, .ref 6, .ref 11, .ref 12, .int (s 0), .int (s 1), .int (s 2), .int (s 3)] : List Value).set 8 (.int x))) = wX (upd s 3 x) a := rfl
theorem wX_put4 (s : jS) (a : jB) (x : Int32) : (wX s a).set 1 (.inr (1, ([.ref 2, .ref 3, .int (s 4), .int (s 5)] : List Value).set 2 (.int x))) = wX (upd s 4 x) a := rfl
theorem wX_put5 (s : jS) (a : jB) (x : Int32) : (wX s a).set 1 (.inr (1, ([.ref 2, .ref 3, .int (s 4), .int (s 5)] : List Value).set 3 (.int x))) = wX (upd s 5 x) a := rfl
theorem wX_ast2 (s : jS) (a : jB) (f : Nat → Int32) : (wX s a).set 2 (.inl (0, 40, f)) = wX s (va_up a 2 f) := rfl
theorem wX_ast3 (s : jS) (a : jB) (f : Nat → Int32) : (wX s a).set 3 (.inl (0, 40, f)) = wX s (va_up a 3 f) := rfl
theorem wX_put6 (s : jS) (a : jB) (x : Int32) : (wX s a).set 4 (.inr (2, ([.ref 1, .ref 5, .int (s 6), .int (s 7), .int (s 8)] : List Value).set 2 (.int x))) = wX (upd s 6 x) a := rfl
theorem wX_put7 (s : jS) (a : jB) (x : Int32) : (wX s a).set 4 (.inr (2, ([.ref 1, .ref 5, .int (s 6), .int (s 7), .int (s 8)] : List Value).set 3 (.int x))) = wX (upd s 7 x) a := rfl
theorem wX_put8 (s : jS) (a : jB) (x : Int32) : (wX s a).set 4 (.inr (2, ([.ref 1, .ref 5, .int (s 6), .int (s 7), .int (s 8)] : List Value).set 4 (.int x))) = wX (upd s 8 x) a := rfl
theorem wX_ast5 (s : jS) (a : jB) (f : Nat → Int32) : (wX s a).set 5 (.inl (0, 20, f)) = wX s (va_up a 5 f) := rfl
theorem wX_ast7 (s : jS) (a : jB) (f : Nat → Int32) : (wX s a).set 7 (.inl (0, 21, f)) = wX s (va_up a 7 f) := rfl
theorem wX_ast8 (s : jS) (a : jB) (f : Nat → Int32) : (wX s a).set 8 (.inl (0, 21, f)) = wX s (va_up a 8 f) := rfl
theorem wX_ast9 (s : jS) (a : jB) (f : Nat → Int32) : (wX s a).set 9 (.inl (0, 21, f)) = wX s (va_up a 9 f) := rfl
theorem wX_ast10 (s : jS) (a : jB) (f : Nat → Int32) : (wX s a).set 10 (.inl (0, 21, f)) = wX s (va_up a 10 f) := rfl
theorem wX_put9 (s : jS) (a : jB) (x : Int32) : (wX s a).set 11 (.inr (4, ([.ref 6, .ref 4, .int (s 9), .int (s 10), .int (s 11)] : List Value).set 2 (.int x))) = wX (upd s 9 x) a := rfl
theorem wX_put10 (s : jS) (a : jB) (x : Int32) : (wX s a).set 11 (.inr (4, ([.ref 6, .ref 4, .int (s 9), .int (s 10), .int (s 11)] : List Value).set 3 (.int x))) = wX (upd s 10 x) a := rfl
theorem wX_put11 (s : jS) (a : jB) (x : Int32) : (wX s a).set 11 (.inr (4, ([.ref 6, .ref 4, .int (s 9), .int (s 10), .int (s 11)] : List Value).set 4 (.int x))) = wX (upd s 11 x) a := rfl
theorem wX_ast12 (s : jS) (a : jB) (f : Nat → Int32) : (wX s a).set 12 (.inl (0, 8, f)) = wX s (va_up a 12 f) := rfl
def wM (s : jS) (a : jB) : jW := [.inr (5, [.int (s 0), .int (s 1), .int (s 2), .int (s 3), .int (s 4), .int (s 5), .int (s 6), .ref 1, .ref 2, .ref 3, .ref 4, .ref 5, .ref 6, .ref 7, .ref 8, .ref 9, .ref 10, .ref 11, .ref 12, .int (s 7), .ref 13, .ref 14, .int (s 8)]), .inl (0, 40, a 1), .inl (0, 40, a 2), .inl (0, 40, a 3), .inl (1, 40, a 4), .inl (1, 160, a 5), .inl (0, 420, a 6), .inl (0, 420, a 7), .inl (1, 20, a 8), .inl (1, 20, a 9), .inl (1, 21, a 10), .inl (0, 21, a 11), .inl (0, 40, a 12), .inl (1, 40, a 13), .inl (1, 21, a 14)]
theorem wM_at0 (s : jS) (a : jB) : (wM s a)[0]? = some (.inr (5, [.int (s 0), .int (s 1), .int (s 2), .int (s 3), .int (s 4), .int (s 5), .int (s 6), .ref 1, .ref 2, .ref 3, .ref 4, .ref 5, .ref 6, .ref 7, .ref 8, .ref 9, .ref 10, .ref 11, .ref 12, .int (s 7), .ref 13, .ref 14, .int (s 8)])) := rfl
theorem wM_at1 (s : jS) (a : jB) : (wM s a)[1]? = some (.inl (0, 40, a 1)) := rfl
theorem wM_at2 (s : jS) (a : jB) : (wM s a)[2]? = some (.inl (0, 40, a 2)) := rfl
theorem wM_at3 (s : jS) (a : jB) : (wM s a)[3]? = some (.inl (0, 40, a 3)) := rfl
theorem wM_at4 (s : jS) (a : jB) : (wM s a)[4]? = some (.inl (1, 40, a 4)) := rfl
theorem wM_at5 (s : jS) (a : jB) : (wM s a)[5]? = some (.inl (1, 160, a 5)) := rfl
theorem wM_at6 (s : jS) (a : jB) : (wM s a)[6]? = some (.inl (0, 420, a 6)) := rfl
theorem wM_at7 (s : jS) (a : jB) : (wM s a)[7]? = some (.inl (0, 420, a 7)) := rfl
theorem wM_at8 (s : jS) (a : jB) : (wM s a)[8]? = some (.inl (1, 20, a 8)) := rfl
theorem wM_at9 (s : jS) (a : jB) : (wM s a)[9]? = some (.inl (1, 20, a 9)) := rfl
theorem wM_at10 (s : jS) (a : jB) : (wM s a)[10]? = some (.inl (1, 21, a 10)) := rfl
theorem wM_at11 (s : jS) (a : jB) : (wM s a)[11]? = some (.inl (0, 21, a 11)) := rfl
theorem wM_at12 (s : jS) (a : jB) : (wM s a)[12]? = some (.inl (0, 40, a 12)) := rfl
theorem wM_at13 (s : jS) (a : jB) : (wM s a)[13]? = some (.inl (1, 40, a 13)) := rfl
theorem wM_at14 (s : jS) (a : jB) : (wM s a)[14]? = some (.inl (1, 21, a 14)) := rfl
theorem wM_put0 (s : jS) (a : jB) (x : Int32) : (wM s a).set 0 (.inr (5, ([.int (s 0), .int (s 1), .int (s 2), .int (s 3), .int (s 4), .int (s 5), .int (s 6), .ref 1, .ref 2, .ref 3, .ref 4, .ref 5, .ref 6, .ref 7, .ref 8, .ref 9, .ref 10, .ref 11, .ref 12, .int (s 7), .ref 13, .ref 14, .int (s 8)] : List Value).set 0 (.int x))) = wM (upd s 0 x) a := rfl
theorem wM_put1 (s : jS) (a : jB) (x : Int32) : (wM s a).set 0 (.inr (5, ([.int (s 0), .int (s 1), .int (s 2), .int (s 3), .int (s 4), .int (s 5), .int (s 6), .ref 1, .ref 2, .ref 3, .ref 4, .ref 5, .ref 6, .ref 7, .ref 8, .ref 9, .ref 10, .ref 11, .ref 12, .int (s 7), .ref 13, .ref 14, .int (s 8)] : List Value).set 1 (.int x))) = wM (upd s 1 x) a := rfl
theorem wM_put2 (s : jS) (a : jB) (x : Int32) : (wM s a).set 0 (.inr (5, ([.int (s 0), .int (s 1), .int (s 2), .int (s 3), .int (s 4), .int (s 5), .int (s 6), .ref 1, .ref 2, .ref 3, .ref 4, .ref 5, .ref 6, .ref 7, .ref 8, .ref 9, .ref 10, .ref 11, .ref 12, .int (s 7), .ref 13, .ref 14, .int (s 8)] : List Value).set 2 (.int x))) = wM (upd s 2 x) a := rfl
theorem wM_put3 (s : jS) (a : jB) (x : Int32) : (wM s a).set 0 (.inr (5, ([.int (s 0), .int (s 1), .int (s 2), .int (s 3), .int (s 4), .int (s 5), .int (s 6), .ref 1, .ref 2, .ref 3, .ref 4, .ref 5, .ref 6, .ref 7, .ref 8, .ref 9, .ref 10, .ref 11, .ref 12, .int (s 7), .ref 13, .ref 14, .int (s 8)] : List Value).set 3 (.int x))) = wM (upd s 3 x) a := rfl
theorem wM_put4 (s : jS) (a : jB) (x : Int32) : (wM s a).set 0 (.inr (5, ([.int (s 0), .int (s 1), .int (s 2), .int (s 3), .int (s 4), .int (s 5), .int (s 6), .ref 1, .ref 2, .ref 3, .ref 4, .ref 5, .ref 6, .ref 7, .ref 8, .ref 9, .ref 10, .ref 11, .ref 12, .int (s 7), .ref 13, .ref 14, .int (s 8)] : List Value).set 4 (.int x))) = wM (upd s 4 x) a := rfl
theorem wM_put5 (s : jS) (a : jB) (x : Int32) : (wM s a).set 0 (.inr (5, ([.int (s 0), .int (s 1), .int (s 2), .int (s 3), .int (s 4), .int (s 5), .int (s 6), .ref 1, .ref 2, .ref 3, .ref 4, .ref 5, .ref 6, .ref 7, .ref 8, .ref 9, .ref 10, .ref 11, .ref 12, .int (s 7), .ref 13, .ref 14, .int (s 8)] : List Value).set 5 (.int x))) = wM (upd s 5 x) a := rfl
theorem wM_put6 (s : jS) (a : jB) (x : Int32) : (wM s a).set 0 (.inr (5, ([.int (s 0), .int (s 1), .int (s 2), .int (s 3), .int (s 4), .int (s 5), .int (s 6), .ref 1, .ref 2, .ref 3, .ref 4, .ref 5, .ref 6, .ref 7, .ref 8, .ref 9, .ref 10, .ref 11, .ref 12, .int (s 7), .ref 13, .ref 14, .int (s 8)] : List Value).set 6 (.int x))) = wM (upd s 6 x) a := rfl
theorem wM_put7 (s : jS) (a : jB) (x : Int32) : (wM s a).set 0 (.inr (5, ([.int (s 0), .int (s 1), .int (s 2), .int (s 3), .int (s 4), .int (s 5), .int (s 6), .ref 1, .ref 2, .ref 3, .ref 4, .ref 5, .ref 6, .ref 7, .ref 8, .ref 9, .ref 10, .ref 11, .ref 12, .int (s 7), .ref 13, .ref 14, .int (s 8)] : List Value).set 19 (.int x))) = wM (upd s 7 x) a := rfl
theorem wM_put8 (s : jS) (a : jB) (x : Int32) : (wM s a).set 0 (.inr (5, ([.int (s 0), .int (s 1), .int (s 2), .int (s 3), .int (s 4), .int (s 5), .int (s 6), .ref 1, .ref 2, .ref 3, .ref 4, .ref 5, .ref 6, .ref 7, .ref 8, .ref 9, .ref 10, .ref 11, .ref 12, .int (s 7), .ref 13, .ref 14, .int (s 8)] : List Value).set 22 (.int x))) = wM (upd s 8 x) a := rfl
theorem wM_ast1 (s : jS) (a : jB) (f : Nat → Int32) : (wM s a).set 1 (.inl (0, 40, f)) = wM s (va_up a 1 f) := rfl
theorem wM_ast2 (s : jS) (a : jB) (f : Nat → Int32) : (wM s a).set 2 (.inl (0, 40, f)) = wM s (va_up a 2 f) := rfl
theorem wM_ast3 (s : jS) (a : jB) (f : Nat → Int32) : (wM s a).set 3 (.inl (0, 40, f)) = wM s (va_up a 3 f) := rfl
theorem wM_ast4 (s : jS) (a : jB) (f : Nat → Int32) : (wM s a).set 4 (.inl (1, 40, f)) = wM s (va_up a 4 f) := rfl
theorem wM_ast5 (s : jS) (a : jB) (f : Nat → Int32) : (wM s a).set 5 (.inl (1, 160, f)) = wM s (va_up a 5 f) := rfl
theorem wM_ast6 (s : jS) (a : jB) (f : Nat → Int32) : (wM s a).set 6 (.inl (0, 420, f)) = wM s (va_up a 6 f) := rfl
theorem wM_ast7 (s : jS) (a : jB) (f : Nat → Int32) : (wM s a).set 7 (.inl (0, 420, f)) = wM s (va_up a 7 f) := rfl
theorem wM_ast8 (s : jS) (a : jB) (f : Nat → Int32) : (wM s a).set 8 (.inl (1, 20, f)) = wM s (va_up a 8 f) := rfl
theorem wM_ast9 (s : jS) (a : jB) (f : Nat → Int32) : (wM s a).set 9 (.inl (1, 20, f)) = wM s (va_up a 9 f) := rfl
theorem wM_ast10 (s : jS) (a : jB) (f : Nat → Int32) : (wM s a).set 10 (.inl (1, 21, f)) = wM s (va_up a 10 f) := rfl
theorem wM_ast11 (s : jS) (a : jB) (f : Nat → Int32) : (wM s a).set 11 (.inl (0, 21, f)) = wM s (va_up a 11 f) := rfl
theorem wM_ast12 (s : jS) (a : jB) (f : Nat → Int32) : (wM s a).set 12 (.inl (0, 40, f)) = wM s (va_up a 12 f) := rfl
theorem wM_ast13 (s : jS) (a : jB) (f : Nat → Int32) : (wM s a).set 13 (.inl (1, 40, f)) = wM s (va_up a 13 f) := rfl
theorem wM_ast14 (s : jS) (a : jB) (f : Nat → Int32) : (wM s a).set 14 (.inl (1, 21, f)) = wM s (va_up a 14 f) := rfl
end
section
theorem d_X_class0_0 : decode prog_1_method_2_code 0 = .ok (.aload_n 0, 1) := by decide +kernel
theorem d_X_class0_1 : decode prog_1_method_2_code 1 = .ok (.getfield 45, 3) := by decide +kernel
theorem d_X_class0_4 : decode prog_1_method_2_code 4 = .ok (.bipush 20, 2) := by decide +kernel
theorem d_X_class0_6 : decode prog_1_method_2_code 6 = .ok (.if_icmp .lt 6, 3) := by decide +kernel
theorem d_X_class0_9 : decode prog_1_method_2_code 9 = .ok (.bipush (-4), 2) := by decide +kernel
theorem d_X_class0_11 : decode prog_1_method_2_code 11 = .ok (.ireturn, 1) := by decide +kernel
theorem d_X_class0_12 : decode prog_1_method_2_code 12 = .ok (.aload_n 0, 1) := by decide +kernel
theorem d_X_class0_13 : decode prog_1_method_2_code 13 = .ok (.getfield 28, 3) := by decide +kernel
theorem d_X_class0_16 : decode prog_1_method_2_code 16 = .ok (.aload_n 0, 1) := by decide +kernel
theorem d_X_class0_17 : decode prog_1_method_2_code 17 = .ok (.getfield 45, 3) := by decide +kernel
theorem d_X_class0_20 : decode prog_1_method_2_code 20 = .ok (.invokevirtual 59, 3) := by decide +kernel
theorem d_X_class0_23 : decode prog_1_method_2_code 23 = .ok (.aload_n 0, 1) := by decide +kernel
theorem d_X_class0_24 : decode prog_1_method_2_code 24 = .ok (.iconst 0, 1) := by decide +kernel
theorem d_X_class0_25 : decode prog_1_method_2_code 25 = .ok (.putfield 55, 3) := by decide +kernel
theorem d_X_class0_28 : decode prog_1_method_2_code 28 = .ok (.aload_n 0, 1) := by decide +kernel
theorem d_X_class0_29 : decode prog_1_method_2_code 29 = .ok (.dup, 1) := by decide +kernel
theorem d_X_class0_30 : decode prog_1_method_2_code 30 = .ok (.getfield 45, 3) := by decide +kernel
theorem d_X_class0_33 : decode prog_1_method_2_code 33 = .ok (.iconst 1, 1) := by decide +kernel
theorem d_X_class0_34 : decode prog_1_method_2_code 34 = .ok (.iadd, 1) := by decide +kernel
theorem d_X_class0_35 : decode prog_1_method_2_code 35 = .ok (.putfield 45, 3) := by decide +kernel
theorem d_X_class0_38 : decode prog_1_method_2_code 38 = .ok (.aload_n 0, 1) := by decide +kernel
theorem d_X_class0_39 : decode prog_1_method_2_code 39 = .ok (.getfield 45, 3) := by decide +kernel
theorem d_X_class0_42 : decode prog_1_method_2_code 42 = .ok (.iconst 1, 1) := by decide +kernel
theorem d_X_class0_43 : decode prog_1_method_2_code 43 = .ok (.isub, 1) := by decide +kernel
theorem d_X_class0_44 : decode prog_1_method_2_code 44 = .ok (.ireturn, 1) := by decide +kernel
theorem d_XK_addClass_0 : decode prog_3_method_2_code 0 = .ok (.aload_n 0, 1) := by decide +kernel
theorem d_XK_addClass_1 : decode prog_3_method_2_code 1 = .ok (.getfield 9, 3) := by decide +kernel
theorem d_XK_addClass_4 : decode prog_3_method_2_code 4 = .ok (.iload_n 1, 1) := by decide +kernel
theorem d_XK_addClass_5 : decode prog_3_method_2_code 5 = .ok (.iload_n 1, 1) := by decide +kernel
theorem d_XK_addClass_6 : decode prog_3_method_2_code 6 = .ok (.invokestatic 24, 3) := by decide +kernel
theorem d_XK_addClass_9 : decode prog_3_method_2_code 9 = .ok (.iastore, 1) := by decide +kernel
theorem d_XK_addClass_10 : decode prog_3_method_2_code 10 = .ok (.aload_n 0, 1) := by decide +kernel
theorem d_XK_addClass_11 : decode prog_3_method_2_code 11 = .ok (.getfield 15, 3) := by decide +kernel
theorem d_XK_addClass_14 : decode prog_3_method_2_code 14 = .ok (.iload_n 1, 1) := by decide +kernel
theorem d_XK_addClass_15 : decode prog_3_method_2_code 15 = .ok (.iload_n 1, 1) := by decide +kernel
theorem d_XK_addClass_16 : decode prog_3_method_2_code 16 = .ok (.invokestatic 24, 3) := by decide +kernel
theorem d_XK_addClass_19 : decode prog_3_method_2_code 19 = .ok (.iastore, 1) := by decide +kernel
theorem d_XK_addClass_20 : decode prog_3_method_2_code 20 = .ok (.aload_n 0, 1) := by decide +kernel
theorem d_XK_addClass_21 : decode prog_3_method_2_code 21 = .ok (.bipush 20, 2) := by decide +kernel
theorem d_XK_addClass_23 : decode prog_3_method_2_code 23 = .ok (.iload_n 1, 1) := by decide +kernel
theorem d_XK_addClass_24 : decode prog_3_method_2_code 24 = .ok (.invokevirtual 28, 3) := by decide +kernel
theorem d_XK_addClass_27 : decode prog_3_method_2_code 27 = .ok (.aload_n 0, 1) := by decide +kernel
theorem d_XK_addClass_28 : decode prog_3_method_2_code 28 = .ok (.invokevirtual 32, 3) := by decide +kernel
theorem d_XK_addClass_31 : decode prog_3_method_2_code 31 = .ok (.return_, 1) := by decide +kernel
theorem d_X_bit_0 : decode prog_1_method_24_code 0 = .ok (.iconst 1, 1) := by decide +kernel
theorem d_X_bit_1 : decode prog_1_method_24_code 1 = .ok (.iload_n 0, 1) := by decide +kernel
theorem d_X_bit_2 : decode prog_1_method_24_code 2 = .ok (.ishl, 1) := by decide +kernel
theorem d_X_bit_3 : decode prog_1_method_24_code 3 = .ok (.ireturn, 1) := by decide +kernel
theorem d_XK_tellYes_0 : decode prog_3_method_11_code 0 = .ok (.aload_n 0, 1) := by decide +kernel
theorem d_XK_tellYes_1 : decode prog_3_method_11_code 1 = .ok (.getfield 9, 3) := by decide +kernel
theorem d_XK_tellYes_4 : decode prog_3_method_11_code 4 = .ok (.iload_n 1, 1) := by decide +kernel
theorem d_XK_tellYes_5 : decode prog_3_method_11_code 5 = .ok (.iaload, 1) := by decide +kernel
theorem d_XK_tellYes_6 : decode prog_3_method_11_code 6 = .ok (.iload_n 2, 1) := by decide +kernel
theorem d_XK_tellYes_7 : decode prog_3_method_11_code 7 = .ok (.invokestatic 35, 3) := by decide +kernel
theorem d_XK_tellYes_10 : decode prog_3_method_11_code 10 = .ok (.ifCond .eq 4, 3) := by decide +kernel
theorem d_XK_tellYes_13 : decode prog_3_method_11_code 13 = .ok (.return_, 1) := by decide +kernel
theorem d_XK_tellYes_14 : decode prog_3_method_11_code 14 = .ok (.aload_n 0, 1) := by decide +kernel
theorem d_XK_tellYes_15 : decode prog_3_method_11_code 15 = .ok (.getfield 15, 3) := by decide +kernel
theorem d_XK_tellYes_18 : decode prog_3_method_11_code 18 = .ok (.iload_n 1, 1) := by decide +kernel
theorem d_XK_tellYes_19 : decode prog_3_method_11_code 19 = .ok (.iaload, 1) := by decide +kernel
theorem d_XK_tellYes_20 : decode prog_3_method_11_code 20 = .ok (.istore_n 3, 1) := by decide +kernel
theorem d_XK_tellYes_21 : decode prog_3_method_11_code 21 = .ok (.aload_n 0, 1) := by decide +kernel
theorem d_XK_tellYes_22 : decode prog_3_method_11_code 22 = .ok (.getfield 9, 3) := by decide +kernel
theorem d_XK_tellYes_25 : decode prog_3_method_11_code 25 = .ok (.iload_n 2, 1) := by decide +kernel
theorem d_XK_tellYes_26 : decode prog_3_method_11_code 26 = .ok (.iaload, 1) := by decide +kernel
theorem d_XK_tellYes_27 : decode prog_3_method_11_code 27 = .ok (.istore 4, 2) := by decide +kernel
theorem d_XK_tellYes_29 : decode prog_3_method_11_code 29 = .ok (.iconst 0, 1) := by decide +kernel
theorem d_XK_tellYes_30 : decode prog_3_method_11_code 30 = .ok (.istore 5, 2) := by decide +kernel
theorem d_XK_tellYes_32 : decode prog_3_method_11_code 32 = .ok (.iload 5, 2) := by decide +kernel
theorem d_XK_tellYes_34 : decode prog_3_method_11_code 34 = .ok (.bipush 21, 2) := by decide +kernel
theorem d_XK_tellYes_36 : decode prog_3_method_11_code 36 = .ok (.if_icmp .ge 51, 3) := by decide +kernel
theorem d_XK_tellYes_39 : decode prog_3_method_11_code 39 = .ok (.iload_n 3, 1) := by decide +kernel
theorem d_XK_tellYes_40 : decode prog_3_method_11_code 40 = .ok (.iload 5, 2) := by decide +kernel
theorem d_XK_tellYes_42 : decode prog_3_method_11_code 42 = .ok (.invokestatic 35, 3) := by decide +kernel
theorem d_XK_tellYes_45 : decode prog_3_method_11_code 45 = .ok (.ifCond .eq 15, 3) := by decide +kernel
theorem d_XK_tellYes_48 : decode prog_3_method_11_code 48 = .ok (.aload_n 0, 1) := by decide +kernel
theorem d_XK_tellYes_49 : decode prog_3_method_11_code 49 = .ok (.getfield 9, 3) := by decide +kernel
theorem d_XK_tellYes_52 : decode prog_3_method_11_code 52 = .ok (.iload 5, 2) := by decide +kernel
theorem d_XK_tellYes_54 : decode prog_3_method_11_code 54 = .ok (.dup2, 1) := by decide +kernel
theorem d_XK_tellYes_55 : decode prog_3_method_11_code 55 = .ok (.iaload, 1) := by decide +kernel
theorem d_XK_tellYes_56 : decode prog_3_method_11_code 56 = .ok (.iload 4, 2) := by decide +kernel
theorem d_XK_tellYes_58 : decode prog_3_method_11_code 58 = .ok (.ior, 1) := by decide +kernel
theorem d_XK_tellYes_59 : decode prog_3_method_11_code 59 = .ok (.iastore, 1) := by decide +kernel
theorem d_XK_tellYes_60 : decode prog_3_method_11_code 60 = .ok (.iload 4, 2) := by decide +kernel
theorem d_XK_tellYes_62 : decode prog_3_method_11_code 62 = .ok (.iload 5, 2) := by decide +kernel
theorem d_XK_tellYes_64 : decode prog_3_method_11_code 64 = .ok (.invokestatic 35, 3) := by decide +kernel
theorem d_XK_tellYes_67 : decode prog_3_method_11_code 67 = .ok (.ifCond .eq 14, 3) := by decide +kernel
theorem d_XK_tellYes_70 : decode prog_3_method_11_code 70 = .ok (.aload_n 0, 1) := by decide +kernel
theorem d_XK_tellYes_71 : decode prog_3_method_11_code 71 = .ok (.getfield 15, 3) := by decide +kernel
theorem d_XK_tellYes_74 : decode prog_3_method_11_code 74 = .ok (.iload 5, 2) := by decide +kernel
theorem d_XK_tellYes_76 : decode prog_3_method_11_code 76 = .ok (.dup2, 1) := by decide +kernel
theorem d_XK_tellYes_77 : decode prog_3_method_11_code 77 = .ok (.iaload, 1) := by decide +kernel
theorem d_XK_tellYes_78 : decode prog_3_method_11_code 78 = .ok (.iload_n 3, 1) := by decide +kernel
theorem d_XK_tellYes_79 : decode prog_3_method_11_code 79 = .ok (.ior, 1) := by decide +kernel
theorem d_XK_tellYes_80 : decode prog_3_method_11_code 80 = .ok (.iastore, 1) := by decide +kernel
theorem d_XK_tellYes_81 : decode prog_3_method_11_code 81 = .ok (.iinc 5 1, 3) := by decide +kernel
theorem d_XK_tellYes_84 : decode prog_3_method_11_code 84 = .ok (.goto (-52), 3) := by decide +kernel
theorem d_XK_tellYes_87 : decode prog_3_method_11_code 87 = .ok (.return_, 1) := by decide +kernel
theorem d_X_has_0 : decode prog_1_method_25_code 0 = .ok (.iload_n 0, 1) := by decide +kernel
theorem d_X_has_1 : decode prog_1_method_25_code 1 = .ok (.iload_n 1, 1) := by decide +kernel
theorem d_X_has_2 : decode prog_1_method_25_code 2 = .ok (.invokestatic 74, 3) := by decide +kernel
theorem d_X_has_5 : decode prog_1_method_25_code 5 = .ok (.iand, 1) := by decide +kernel
theorem d_X_has_6 : decode prog_1_method_25_code 6 = .ok (.ifCond .eq 7, 3) := by decide +kernel
theorem d_X_has_9 : decode prog_1_method_25_code 9 = .ok (.iconst 1, 1) := by decide +kernel
theorem d_X_has_10 : decode prog_1_method_25_code 10 = .ok (.goto 4, 3) := by decide +kernel
theorem d_X_has_13 : decode prog_1_method_25_code 13 = .ok (.iconst 0, 1) := by decide +kernel
theorem d_X_has_14 : decode prog_1_method_25_code 14 = .ok (.ireturn, 1) := by decide +kernel
theorem d_XK_close_0 : decode prog_3_method_12_code 0 = .ok (.iconst 0, 1) := by decide +kernel
theorem d_XK_close_1 : decode prog_3_method_12_code 1 = .ok (.istore_n 1, 1) := by decide +kernel
theorem d_XK_close_2 : decode prog_3_method_12_code 2 = .ok (.iload_n 1, 1) := by decide +kernel
theorem d_XK_close_3 : decode prog_3_method_12_code 3 = .ok (.bipush 21, 2) := by decide +kernel
theorem d_XK_close_5 : decode prog_3_method_12_code 5 = .ok (.if_icmp .ge 61, 3) := by decide +kernel
theorem d_XK_close_8 : decode prog_3_method_12_code 8 = .ok (.aload_n 0, 1) := by decide +kernel
theorem d_XK_close_9 : decode prog_3_method_12_code 9 = .ok (.getfield 18, 3) := by decide +kernel
theorem d_XK_close_12 : decode prog_3_method_12_code 12 = .ok (.aload_n 0, 1) := by decide +kernel
theorem d_XK_close_13 : decode prog_3_method_12_code 13 = .ok (.getfield 15, 3) := by decide +kernel
theorem d_XK_close_16 : decode prog_3_method_12_code 16 = .ok (.iload_n 1, 1) := by decide +kernel
theorem d_XK_close_17 : decode prog_3_method_12_code 17 = .ok (.iaload, 1) := by decide +kernel
theorem d_XK_close_18 : decode prog_3_method_12_code 18 = .ok (.invokestatic 39, 3) := by decide +kernel
theorem d_XK_close_21 : decode prog_3_method_12_code 21 = .ok (.istore_n 2, 1) := by decide +kernel
theorem d_XK_close_22 : decode prog_3_method_12_code 22 = .ok (.aload_n 0, 1) := by decide +kernel
theorem d_XK_close_23 : decode prog_3_method_12_code 23 = .ok (.getfield 18, 3) := by decide +kernel
theorem d_XK_close_26 : decode prog_3_method_12_code 26 = .ok (.iload_n 1, 1) := by decide +kernel
theorem d_XK_close_27 : decode prog_3_method_12_code 27 = .ok (.aload_n 0, 1) := by decide +kernel
theorem d_XK_close_28 : decode prog_3_method_12_code 28 = .ok (.getfield 15, 3) := by decide +kernel
theorem d_XK_close_31 : decode prog_3_method_12_code 31 = .ok (.iload_n 2, 1) := by decide +kernel
theorem d_XK_close_32 : decode prog_3_method_12_code 32 = .ok (.invokestatic 39, 3) := by decide +kernel
theorem d_XK_close_35 : decode prog_3_method_12_code 35 = .ok (.iastore, 1) := by decide +kernel
theorem d_XK_close_36 : decode prog_3_method_12_code 36 = .ok (.aload_n 0, 1) := by decide +kernel
theorem d_XK_close_37 : decode prog_3_method_12_code 37 = .ok (.getfield 21, 3) := by decide +kernel
theorem d_XK_close_40 : decode prog_3_method_12_code 40 = .ok (.iload_n 1, 1) := by decide +kernel
theorem d_XK_close_41 : decode prog_3_method_12_code 41 = .ok (.dup2, 1) := by decide +kernel
theorem d_XK_close_42 : decode prog_3_method_12_code 42 = .ok (.iaload, 1) := by decide +kernel
theorem d_XK_close_43 : decode prog_3_method_12_code 43 = .ok (.aload_n 0, 1) := by decide +kernel
theorem d_XK_close_44 : decode prog_3_method_12_code 44 = .ok (.getfield 9, 3) := by decide +kernel
theorem d_XK_close_47 : decode prog_3_method_12_code 47 = .ok (.iload_n 1, 1) := by decide +kernel
theorem d_XK_close_48 : decode prog_3_method_12_code 48 = .ok (.iaload, 1) := by decide +kernel
theorem d_XK_close_49 : decode prog_3_method_12_code 49 = .ok (.aload_n 0, 1) := by decide +kernel
theorem d_XK_close_50 : decode prog_3_method_12_code 50 = .ok (.getfield 18, 3) := by decide +kernel
theorem d_XK_close_53 : decode prog_3_method_12_code 53 = .ok (.iload_n 1, 1) := by decide +kernel
theorem d_XK_close_54 : decode prog_3_method_12_code 54 = .ok (.iaload, 1) := by decide +kernel
theorem d_XK_close_55 : decode prog_3_method_12_code 55 = .ok (.ior, 1) := by decide +kernel
theorem d_XK_close_56 : decode prog_3_method_12_code 56 = .ok (.iconst (-1), 1) := by decide +kernel
theorem d_XK_close_57 : decode prog_3_method_12_code 57 = .ok (.ixor, 1) := by decide +kernel
theorem d_XK_close_58 : decode prog_3_method_12_code 58 = .ok (.iand, 1) := by decide +kernel
theorem d_XK_close_59 : decode prog_3_method_12_code 59 = .ok (.iastore, 1) := by decide +kernel
theorem d_XK_close_60 : decode prog_3_method_12_code 60 = .ok (.iinc 1 1, 3) := by decide +kernel
theorem d_XK_close_63 : decode prog_3_method_12_code 63 = .ok (.goto (-61), 3) := by decide +kernel
theorem d_XK_close_66 : decode prog_3_method_12_code 66 = .ok (.return_, 1) := by decide +kernel
theorem d_XK_union_0 : decode prog_3_method_18_code 0 = .ok (.iconst 0, 1) := by decide +kernel
theorem d_XK_union_1 : decode prog_3_method_18_code 1 = .ok (.istore_n 2, 1) := by decide +kernel
theorem d_XK_union_2 : decode prog_3_method_18_code 2 = .ok (.iconst 0, 1) := by decide +kernel
theorem d_XK_union_3 : decode prog_3_method_18_code 3 = .ok (.istore_n 3, 1) := by decide +kernel
theorem d_XK_union_4 : decode prog_3_method_18_code 4 = .ok (.iload_n 3, 1) := by decide +kernel
theorem d_XK_union_5 : decode prog_3_method_18_code 5 = .ok (.bipush 21, 2) := by decide +kernel
theorem d_XK_union_7 : decode prog_3_method_18_code 7 = .ok (.if_icmp .ge 23, 3) := by decide +kernel
theorem d_XK_union_10 : decode prog_3_method_18_code 10 = .ok (.iload_n 1, 1) := by decide +kernel
theorem d_XK_union_11 : decode prog_3_method_18_code 11 = .ok (.iload_n 3, 1) := by decide +kernel
theorem d_XK_union_12 : decode prog_3_method_18_code 12 = .ok (.invokestatic 35, 3) := by decide +kernel
theorem d_XK_union_15 : decode prog_3_method_18_code 15 = .ok (.ifCond .eq 9, 3) := by decide +kernel
theorem d_XK_union_18 : decode prog_3_method_18_code 18 = .ok (.iload_n 2, 1) := by decide +kernel
theorem d_XK_union_19 : decode prog_3_method_18_code 19 = .ok (.aload_n 0, 1) := by decide +kernel
theorem d_XK_union_20 : decode prog_3_method_18_code 20 = .ok (.iload_n 3, 1) := by decide +kernel
theorem d_XK_union_21 : decode prog_3_method_18_code 21 = .ok (.iaload, 1) := by decide +kernel
theorem d_XK_union_22 : decode prog_3_method_18_code 22 = .ok (.ior, 1) := by decide +kernel
theorem d_XK_union_23 : decode prog_3_method_18_code 23 = .ok (.istore_n 2, 1) := by decide +kernel
theorem d_XK_union_24 : decode prog_3_method_18_code 24 = .ok (.iinc 3 1, 3) := by decide +kernel
theorem d_XK_union_27 : decode prog_3_method_18_code 27 = .ok (.goto (-23), 3) := by decide +kernel
theorem d_XK_union_30 : decode prog_3_method_18_code 30 = .ok (.iload_n 2, 1) := by decide +kernel
theorem d_XK_union_31 : decode prog_3_method_18_code 31 = .ok (.ireturn, 1) := by decide +kernel
theorem d_X_thing_0 : decode prog_1_method_3_code 0 = .ok (.aload_n 0, 1) := by decide +kernel
theorem d_X_thing_1 : decode prog_1_method_3_code 1 = .ok (.getfield 49, 3) := by decide +kernel
theorem d_X_thing_4 : decode prog_1_method_3_code 4 = .ok (.bipush 8, 2) := by decide +kernel
theorem d_X_thing_6 : decode prog_1_method_3_code 6 = .ok (.if_icmp .lt 6, 3) := by decide +kernel
theorem d_X_thing_9 : decode prog_1_method_3_code 9 = .ok (.bipush (-4), 2) := by decide +kernel
theorem d_X_thing_11 : decode prog_1_method_3_code 11 = .ok (.ireturn, 1) := by decide +kernel
theorem d_X_thing_12 : decode prog_1_method_3_code 12 = .ok (.aload_n 0, 1) := by decide +kernel
theorem d_X_thing_13 : decode prog_1_method_3_code 13 = .ok (.dup, 1) := by decide +kernel
theorem d_X_thing_14 : decode prog_1_method_3_code 14 = .ok (.getfield 49, 3) := by decide +kernel
theorem d_X_thing_17 : decode prog_1_method_3_code 17 = .ok (.iconst 1, 1) := by decide +kernel
theorem d_X_thing_18 : decode prog_1_method_3_code 18 = .ok (.iadd, 1) := by decide +kernel
theorem d_X_thing_19 : decode prog_1_method_3_code 19 = .ok (.putfield 49, 3) := by decide +kernel
theorem d_X_thing_22 : decode prog_1_method_3_code 22 = .ok (.aload_n 0, 1) := by decide +kernel
theorem d_X_thing_23 : decode prog_1_method_3_code 23 = .ok (.getfield 49, 3) := by decide +kernel
theorem d_X_thing_26 : decode prog_1_method_3_code 26 = .ok (.iconst 1, 1) := by decide +kernel
theorem d_X_thing_27 : decode prog_1_method_3_code 27 = .ok (.isub, 1) := by decide +kernel
theorem d_X_thing_28 : decode prog_1_method_3_code 28 = .ok (.ireturn, 1) := by decide +kernel
theorem d_X_axiom_0 : decode prog_1_method_4_code 0 = .ok (.iload_n 2, 1) := by decide +kernel
theorem d_X_axiom_1 : decode prog_1_method_4_code 1 = .ok (.iconst (-1), 1) := by decide +kernel
theorem d_X_axiom_2 : decode prog_1_method_4_code 2 = .ok (.if_icmp .ne 7, 3) := by decide +kernel
theorem d_X_axiom_5 : decode prog_1_method_4_code 5 = .ok (.iconst 1, 1) := by decide +kernel
theorem d_X_axiom_6 : decode prog_1_method_4_code 6 = .ok (.goto 4, 3) := by decide +kernel
theorem d_X_axiom_9 : decode prog_1_method_4_code 9 = .ok (.iconst 0, 1) := by decide +kernel
theorem d_X_axiom_10 : decode prog_1_method_4_code 10 = .ok (.istore 4, 2) := by decide +kernel
theorem d_X_axiom_12 : decode prog_1_method_4_code 12 = .ok (.aload_n 0, 1) := by decide +kernel
theorem d_X_axiom_13 : decode prog_1_method_4_code 13 = .ok (.iload_n 1, 1) := by decide +kernel
theorem d_X_axiom_14 : decode prog_1_method_4_code 14 = .ok (.invokevirtual 63, 3) := by decide +kernel
theorem d_X_axiom_17 : decode prog_1_method_4_code 17 = .ok (.ifCond .eq 24, 3) := by decide +kernel
theorem d_X_axiom_20 : decode prog_1_method_4_code 20 = .ok (.iload 4, 2) := by decide +kernel
theorem d_X_axiom_22 : decode prog_1_method_4_code 22 = .ok (.ifCond .ne 11, 3) := by decide +kernel
theorem d_X_axiom_25 : decode prog_1_method_4_code 25 = .ok (.aload_n 0, 1) := by decide +kernel
theorem d_X_axiom_26 : decode prog_1_method_4_code 26 = .ok (.iload_n 2, 1) := by decide +kernel
theorem d_X_axiom_27 : decode prog_1_method_4_code 27 = .ok (.invokevirtual 63, 3) := by decide +kernel
theorem d_X_axiom_30 : decode prog_1_method_4_code 30 = .ok (.ifCond .eq 11, 3) := by decide +kernel
theorem d_X_axiom_33 : decode prog_1_method_4_code 33 = .ok (.aload_n 0, 1) := by decide +kernel
theorem d_X_axiom_34 : decode prog_1_method_4_code 34 = .ok (.iload_n 3, 1) := by decide +kernel
theorem d_X_axiom_35 : decode prog_1_method_4_code 35 = .ok (.invokevirtual 67, 3) := by decide +kernel
theorem d_X_axiom_38 : decode prog_1_method_4_code 38 = .ok (.ifCond .ne 5, 3) := by decide +kernel
theorem d_X_axiom_41 : decode prog_1_method_4_code 41 = .ok (.iconst (-1), 1) := by decide +kernel
theorem d_X_axiom_42 : decode prog_1_method_4_code 42 = .ok (.ireturn, 1) := by decide +kernel
theorem d_X_axiom_43 : decode prog_1_method_4_code 43 = .ok (.iload_n 2, 1) := by decide +kernel
theorem d_X_axiom_44 : decode prog_1_method_4_code 44 = .ok (.iload_n 1, 1) := by decide +kernel
theorem d_X_axiom_45 : decode prog_1_method_4_code 45 = .ok (.if_icmp .ne 6, 3) := by decide +kernel
theorem d_X_axiom_48 : decode prog_1_method_4_code 48 = .ok (.bipush (-2), 2) := by decide +kernel
theorem d_X_axiom_50 : decode prog_1_method_4_code 50 = .ok (.ireturn, 1) := by decide +kernel
theorem d_X_axiom_51 : decode prog_1_method_4_code 51 = .ok (.aload_n 0, 1) := by decide +kernel
theorem d_X_axiom_52 : decode prog_1_method_4_code 52 = .ok (.getfield 12, 3) := by decide +kernel
theorem d_X_axiom_55 : decode prog_1_method_4_code 55 = .ok (.invokevirtual 70, 3) := by decide +kernel
theorem d_X_axiom_58 : decode prog_1_method_4_code 58 = .ok (.ifCond .eq 6, 3) := by decide +kernel
theorem d_X_axiom_61 : decode prog_1_method_4_code 61 = .ok (.bipush (-4), 2) := by decide +kernel
theorem d_X_axiom_63 : decode prog_1_method_4_code 63 = .ok (.ireturn, 1) := by decide +kernel
theorem d_X_axiom_64 : decode prog_1_method_4_code 64 = .ok (.aload_n 0, 1) := by decide +kernel
theorem d_X_axiom_65 : decode prog_1_method_4_code 65 = .ok (.getfield 12, 3) := by decide +kernel
theorem d_X_axiom_68 : decode prog_1_method_4_code 68 = .ok (.iload 4, 2) := by decide +kernel
theorem d_X_axiom_70 : decode prog_1_method_4_code 70 = .ok (.ifCond .eq 10, 3) := by decide +kernel
theorem d_X_axiom_73 : decode prog_1_method_4_code 73 = .ok (.iload_n 1, 1) := by decide +kernel
theorem d_X_axiom_74 : decode prog_1_method_4_code 74 = .ok (.invokestatic 74, 3) := by decide +kernel
theorem d_X_axiom_77 : decode prog_1_method_4_code 77 = .ok (.goto 12, 3) := by decide +kernel
theorem d_X_axiom_80 : decode prog_1_method_4_code 80 = .ok (.iload_n 1, 1) := by decide +kernel
theorem d_X_axiom_81 : decode prog_1_method_4_code 81 = .ok (.invokestatic 74, 3) := by decide +kernel
theorem d_X_axiom_84 : decode prog_1_method_4_code 84 = .ok (.iload_n 2, 1) := by decide +kernel
theorem d_X_axiom_85 : decode prog_1_method_4_code 85 = .ok (.invokestatic 74, 3) := by decide +kernel
theorem d_X_axiom_88 : decode prog_1_method_4_code 88 = .ok (.ior, 1) := by decide +kernel
theorem d_X_axiom_89 : decode prog_1_method_4_code 89 = .ok (.iload_n 3, 1) := by decide +kernel
theorem d_X_axiom_90 : decode prog_1_method_4_code 90 = .ok (.invokestatic 78, 3) := by decide +kernel
theorem d_X_axiom_93 : decode prog_1_method_4_code 93 = .ok (.invokevirtual 81, 3) := by decide +kernel
theorem d_X_axiom_96 : decode prog_1_method_4_code 96 = .ok (.istore 5, 2) := by decide +kernel
theorem d_X_axiom_98 : decode prog_1_method_4_code 98 = .ok (.aload_n 0, 1) := by decide +kernel
theorem d_X_axiom_99 : decode prog_1_method_4_code 99 = .ok (.getfield 28, 3) := by decide +kernel
theorem d_X_axiom_102 : decode prog_1_method_4_code 102 = .ok (.aload_n 0, 1) := by decide +kernel
theorem d_X_axiom_103 : decode prog_1_method_4_code 103 = .ok (.getfield 12, 3) := by decide +kernel
theorem d_X_axiom_106 : decode prog_1_method_4_code 106 = .ok (.iload 5, 2) := by decide +kernel
theorem d_X_axiom_108 : decode prog_1_method_4_code 108 = .ok (.invokevirtual 85, 3) := by decide +kernel
theorem d_X_axiom_111 : decode prog_1_method_4_code 111 = .ok (.invokevirtual 88, 3) := by decide +kernel
theorem d_X_axiom_114 : decode prog_1_method_4_code 114 = .ok (.aload_n 0, 1) := by decide +kernel
theorem d_X_axiom_115 : decode prog_1_method_4_code 115 = .ok (.invokevirtual 91, 3) := by decide +kernel
theorem d_X_axiom_118 : decode prog_1_method_4_code 118 = .ok (.aload_n 0, 1) := by decide +kernel
theorem d_X_axiom_119 : decode prog_1_method_4_code 119 = .ok (.iconst 0, 1) := by decide +kernel
theorem d_X_axiom_120 : decode prog_1_method_4_code 120 = .ok (.putfield 55, 3) := by decide +kernel
theorem d_X_axiom_123 : decode prog_1_method_4_code 123 = .ok (.iload 5, 2) := by decide +kernel
theorem d_X_axiom_125 : decode prog_1_method_4_code 125 = .ok (.ireturn, 1) := by decide +kernel
theorem d_X_isClass_0 : decode prog_1_method_19_code 0 = .ok (.iload_n 1, 1) := by decide +kernel
theorem d_X_isClass_1 : decode prog_1_method_19_code 1 = .ok (.ifCond .lt 15, 3) := by decide +kernel
theorem d_X_isClass_4 : decode prog_1_method_19_code 4 = .ok (.iload_n 1, 1) := by decide +kernel
theorem d_X_isClass_5 : decode prog_1_method_19_code 5 = .ok (.aload_n 0, 1) := by decide +kernel
theorem d_X_isClass_6 : decode prog_1_method_19_code 6 = .ok (.getfield 45, 3) := by decide +kernel
theorem d_X_isClass_9 : decode prog_1_method_19_code 9 = .ok (.if_icmp .ge 7, 3) := by decide +kernel
theorem d_X_isClass_12 : decode prog_1_method_19_code 12 = .ok (.iconst 1, 1) := by decide +kernel
theorem d_X_isClass_13 : decode prog_1_method_19_code 13 = .ok (.goto 4, 3) := by decide +kernel
theorem d_X_isClass_16 : decode prog_1_method_19_code 16 = .ok (.iconst 0, 1) := by decide +kernel
theorem d_X_isClass_17 : decode prog_1_method_19_code 17 = .ok (.ireturn, 1) := by decide +kernel
theorem d_X_isGoal_0 : decode prog_1_method_21_code 0 = .ok (.iload_n 1, 1) := by decide +kernel
theorem d_X_isGoal_1 : decode prog_1_method_21_code 1 = .ok (.iconst (-1), 1) := by decide +kernel
theorem d_X_isGoal_2 : decode prog_1_method_21_code 2 = .ok (.if_icmp .eq 11, 3) := by decide +kernel
theorem d_X_isGoal_5 : decode prog_1_method_21_code 5 = .ok (.aload_n 0, 1) := by decide +kernel
theorem d_X_isGoal_6 : decode prog_1_method_21_code 6 = .ok (.iload_n 1, 1) := by decide +kernel
theorem d_X_isGoal_7 : decode prog_1_method_21_code 7 = .ok (.invokevirtual 63, 3) := by decide +kernel
theorem d_X_isGoal_10 : decode prog_1_method_21_code 10 = .ok (.ifCond .eq 7, 3) := by decide +kernel
theorem d_X_isGoal_13 : decode prog_1_method_21_code 13 = .ok (.iconst 1, 1) := by decide +kernel
theorem d_X_isGoal_14 : decode prog_1_method_21_code 14 = .ok (.goto 4, 3) := by decide +kernel
theorem d_X_isGoal_17 : decode prog_1_method_21_code 17 = .ok (.iconst 0, 1) := by decide +kernel
theorem d_X_isGoal_18 : decode prog_1_method_21_code 18 = .ok (.ireturn, 1) := by decide +kernel
theorem d_XA_isFull_0 : decode prog_2_method_2_code 0 = .ok (.aload_n 0, 1) := by decide +kernel
theorem d_XA_isFull_1 : decode prog_2_method_2_code 1 = .ok (.getfield 18, 3) := by decide +kernel
theorem d_XA_isFull_4 : decode prog_2_method_2_code 4 = .ok (.bipush 40, 2) := by decide +kernel
theorem d_XA_isFull_6 : decode prog_2_method_2_code 6 = .ok (.if_icmp .lt 7, 3) := by decide +kernel
theorem d_XA_isFull_9 : decode prog_2_method_2_code 9 = .ok (.iconst 1, 1) := by decide +kernel
theorem d_XA_isFull_10 : decode prog_2_method_2_code 10 = .ok (.goto 4, 3) := by decide +kernel
theorem d_XA_isFull_13 : decode prog_2_method_2_code 13 = .ok (.iconst 0, 1) := by decide +kernel
theorem d_XA_isFull_14 : decode prog_2_method_2_code 14 = .ok (.ireturn, 1) := by decide +kernel
theorem d_X_slot_0 : decode prog_1_method_23_code 0 = .ok (.iload_n 0, 1) := by decide +kernel
theorem d_X_slot_1 : decode prog_1_method_23_code 1 = .ok (.iconst (-1), 1) := by decide +kernel
theorem d_X_slot_2 : decode prog_1_method_23_code 2 = .ok (.if_icmp .ne 8, 3) := by decide +kernel
theorem d_X_slot_5 : decode prog_1_method_23_code 5 = .ok (.bipush 20, 2) := by decide +kernel
theorem d_X_slot_7 : decode prog_1_method_23_code 7 = .ok (.goto 4, 3) := by decide +kernel
theorem d_X_slot_10 : decode prog_1_method_23_code 10 = .ok (.iload_n 0, 1) := by decide +kernel
theorem d_X_slot_11 : decode prog_1_method_23_code 11 = .ok (.ireturn, 1) := by decide +kernel
theorem d_XA_add_0 : decode prog_2_method_7_code 0 = .ok (.aload_n 0, 1) := by decide +kernel
theorem d_XA_add_1 : decode prog_2_method_7_code 1 = .ok (.invokevirtual 29, 3) := by decide +kernel
theorem d_XA_add_4 : decode prog_2_method_7_code 4 = .ok (.ifCond .eq 6, 3) := by decide +kernel
theorem d_XA_add_7 : decode prog_2_method_7_code 7 = .ok (.bipush (-4), 2) := by decide +kernel
theorem d_XA_add_9 : decode prog_2_method_7_code 9 = .ok (.ireturn, 1) := by decide +kernel
theorem d_XA_add_10 : decode prog_2_method_7_code 10 = .ok (.aload_n 0, 1) := by decide +kernel
theorem d_XA_add_11 : decode prog_2_method_7_code 11 = .ok (.getfield 9, 3) := by decide +kernel
theorem d_XA_add_14 : decode prog_2_method_7_code 14 = .ok (.aload_n 0, 1) := by decide +kernel
theorem d_XA_add_15 : decode prog_2_method_7_code 15 = .ok (.getfield 18, 3) := by decide +kernel
theorem d_XA_add_18 : decode prog_2_method_7_code 18 = .ok (.iload_n 1, 1) := by decide +kernel
theorem d_XA_add_19 : decode prog_2_method_7_code 19 = .ok (.iastore, 1) := by decide +kernel
theorem d_XA_add_20 : decode prog_2_method_7_code 20 = .ok (.aload_n 0, 1) := by decide +kernel
theorem d_XA_add_21 : decode prog_2_method_7_code 21 = .ok (.getfield 15, 3) := by decide +kernel
theorem d_XA_add_24 : decode prog_2_method_7_code 24 = .ok (.aload_n 0, 1) := by decide +kernel
theorem d_XA_add_25 : decode prog_2_method_7_code 25 = .ok (.getfield 18, 3) := by decide +kernel
theorem d_XA_add_28 : decode prog_2_method_7_code 28 = .ok (.iload_n 2, 1) := by decide +kernel
theorem d_XA_add_29 : decode prog_2_method_7_code 29 = .ok (.iastore, 1) := by decide +kernel
theorem d_XA_add_30 : decode prog_2_method_7_code 30 = .ok (.aload_n 0, 1) := by decide +kernel
theorem d_XA_add_31 : decode prog_2_method_7_code 31 = .ok (.dup, 1) := by decide +kernel
theorem d_XA_add_32 : decode prog_2_method_7_code 32 = .ok (.getfield 18, 3) := by decide +kernel
theorem d_XA_add_35 : decode prog_2_method_7_code 35 = .ok (.iconst 1, 1) := by decide +kernel
theorem d_XA_add_36 : decode prog_2_method_7_code 36 = .ok (.iadd, 1) := by decide +kernel
theorem d_XA_add_37 : decode prog_2_method_7_code 37 = .ok (.putfield 18, 3) := by decide +kernel
theorem d_XA_add_40 : decode prog_2_method_7_code 40 = .ok (.aload_n 0, 1) := by decide +kernel
theorem d_XA_add_41 : decode prog_2_method_7_code 41 = .ok (.dup, 1) := by decide +kernel
theorem d_XA_add_42 : decode prog_2_method_7_code 42 = .ok (.getfield 22, 3) := by decide +kernel
theorem d_XA_add_45 : decode prog_2_method_7_code 45 = .ok (.iconst 1, 1) := by decide +kernel
theorem d_XA_add_46 : decode prog_2_method_7_code 46 = .ok (.iadd, 1) := by decide +kernel
theorem d_XA_add_47 : decode prog_2_method_7_code 47 = .ok (.putfield 22, 3) := by decide +kernel
theorem d_XA_add_50 : decode prog_2_method_7_code 50 = .ok (.aload_n 0, 1) := by decide +kernel
theorem d_XA_add_51 : decode prog_2_method_7_code 51 = .ok (.getfield 18, 3) := by decide +kernel
theorem d_XA_add_54 : decode prog_2_method_7_code 54 = .ok (.iconst 1, 1) := by decide +kernel
theorem d_XA_add_55 : decode prog_2_method_7_code 55 = .ok (.isub, 1) := by decide +kernel
theorem d_XA_add_56 : decode prog_2_method_7_code 56 = .ok (.ireturn, 1) := by decide +kernel
theorem d_XA_touchedBy_0 : decode prog_2_method_10_code 0 = .ok (.aload_n 0, 1) := by decide +kernel
theorem d_XA_touchedBy_1 : decode prog_2_method_10_code 1 = .ok (.iload_n 1, 1) := by decide +kernel
theorem d_XA_touchedBy_2 : decode prog_2_method_10_code 2 = .ok (.invokevirtual 25, 3) := by decide +kernel
theorem d_XA_touchedBy_5 : decode prog_2_method_10_code 5 = .ok (.istore_n 2, 1) := by decide +kernel
theorem d_XA_touchedBy_6 : decode prog_2_method_10_code 6 = .ok (.iconst 0, 1) := by decide +kernel
theorem d_XA_touchedBy_7 : decode prog_2_method_10_code 7 = .ok (.istore_n 3, 1) := by decide +kernel
theorem d_XA_touchedBy_8 : decode prog_2_method_10_code 8 = .ok (.iload_n 3, 1) := by decide +kernel
theorem d_XA_touchedBy_9 : decode prog_2_method_10_code 9 = .ok (.bipush 20, 2) := by decide +kernel
theorem d_XA_touchedBy_11 : decode prog_2_method_10_code 11 = .ok (.if_icmp .ge 81, 3) := by decide +kernel
theorem d_XA_touchedBy_14 : decode prog_2_method_10_code 14 = .ok (.iload_n 2, 1) := by decide +kernel
theorem d_XA_touchedBy_15 : decode prog_2_method_10_code 15 = .ok (.istore 4, 2) := by decide +kernel
theorem d_XA_touchedBy_17 : decode prog_2_method_10_code 17 = .ok (.iconst 0, 1) := by decide +kernel
theorem d_XA_touchedBy_18 : decode prog_2_method_10_code 18 = .ok (.istore 5, 2) := by decide +kernel
theorem d_XA_touchedBy_20 : decode prog_2_method_10_code 20 = .ok (.iload 5, 2) := by decide +kernel
theorem d_XA_touchedBy_22 : decode prog_2_method_10_code 22 = .ok (.aload_n 0, 1) := by decide +kernel
theorem d_XA_touchedBy_23 : decode prog_2_method_10_code 23 = .ok (.getfield 18, 3) := by decide +kernel
theorem d_XA_touchedBy_26 : decode prog_2_method_10_code 26 = .ok (.if_icmp .ge 52, 3) := by decide +kernel
theorem d_XA_touchedBy_29 : decode prog_2_method_10_code 29 = .ok (.aload_n 0, 1) := by decide +kernel
theorem d_XA_touchedBy_30 : decode prog_2_method_10_code 30 = .ok (.getfield 9, 3) := by decide +kernel
theorem d_XA_touchedBy_33 : decode prog_2_method_10_code 33 = .ok (.iload 5, 2) := by decide +kernel
theorem d_XA_touchedBy_35 : decode prog_2_method_10_code 35 = .ok (.iaload, 1) := by decide +kernel
theorem d_XA_touchedBy_36 : decode prog_2_method_10_code 36 = .ok (.ifCond .eq 36, 3) := by decide +kernel
theorem d_XA_touchedBy_39 : decode prog_2_method_10_code 39 = .ok (.aload_n 0, 1) := by decide +kernel
theorem d_XA_touchedBy_40 : decode prog_2_method_10_code 40 = .ok (.getfield 9, 3) := by decide +kernel
theorem d_XA_touchedBy_43 : decode prog_2_method_10_code 43 = .ok (.iload 5, 2) := by decide +kernel
theorem d_XA_touchedBy_45 : decode prog_2_method_10_code 45 = .ok (.iaload, 1) := by decide +kernel
theorem d_XA_touchedBy_46 : decode prog_2_method_10_code 46 = .ok (.aload_n 0, 1) := by decide +kernel
theorem d_XA_touchedBy_47 : decode prog_2_method_10_code 47 = .ok (.getfield 15, 3) := by decide +kernel
theorem d_XA_touchedBy_50 : decode prog_2_method_10_code 50 = .ok (.iload 5, 2) := by decide +kernel
theorem d_XA_touchedBy_52 : decode prog_2_method_10_code 52 = .ok (.iaload, 1) := by decide +kernel
theorem d_XA_touchedBy_53 : decode prog_2_method_10_code 53 = .ok (.invokestatic 41, 3) := by decide +kernel
theorem d_XA_touchedBy_56 : decode prog_2_method_10_code 56 = .ok (.ior, 1) := by decide +kernel
theorem d_XA_touchedBy_57 : decode prog_2_method_10_code 57 = .ok (.iload_n 2, 1) := by decide +kernel
theorem d_XA_touchedBy_58 : decode prog_2_method_10_code 58 = .ok (.iand, 1) := by decide +kernel
theorem d_XA_touchedBy_59 : decode prog_2_method_10_code 59 = .ok (.ifCond .eq 13, 3) := by decide +kernel
theorem d_XA_touchedBy_62 : decode prog_2_method_10_code 62 = .ok (.iload_n 2, 1) := by decide +kernel
theorem d_XA_touchedBy_63 : decode prog_2_method_10_code 63 = .ok (.aload_n 0, 1) := by decide +kernel
theorem d_XA_touchedBy_64 : decode prog_2_method_10_code 64 = .ok (.getfield 9, 3) := by decide +kernel
theorem d_XA_touchedBy_67 : decode prog_2_method_10_code 67 = .ok (.iload 5, 2) := by decide +kernel
theorem d_XA_touchedBy_69 : decode prog_2_method_10_code 69 = .ok (.iaload, 1) := by decide +kernel
theorem d_XA_touchedBy_70 : decode prog_2_method_10_code 70 = .ok (.ior, 1) := by decide +kernel
theorem d_XA_touchedBy_71 : decode prog_2_method_10_code 71 = .ok (.istore_n 2, 1) := by decide +kernel
theorem d_XA_touchedBy_72 : decode prog_2_method_10_code 72 = .ok (.iinc 5 1, 3) := by decide +kernel
theorem d_XA_touchedBy_75 : decode prog_2_method_10_code 75 = .ok (.goto (-55), 3) := by decide +kernel
theorem d_XA_touchedBy_78 : decode prog_2_method_10_code 78 = .ok (.iload_n 2, 1) := by decide +kernel
theorem d_XA_touchedBy_79 : decode prog_2_method_10_code 79 = .ok (.iload 4, 2) := by decide +kernel
theorem d_XA_touchedBy_81 : decode prog_2_method_10_code 81 = .ok (.if_icmp .ne 5, 3) := by decide +kernel
theorem d_XA_touchedBy_84 : decode prog_2_method_10_code 84 = .ok (.iload_n 2, 1) := by decide +kernel
theorem d_XA_touchedBy_85 : decode prog_2_method_10_code 85 = .ok (.ireturn, 1) := by decide +kernel
theorem d_XA_touchedBy_86 : decode prog_2_method_10_code 86 = .ok (.iinc 3 1, 3) := by decide +kernel
theorem d_XA_touchedBy_89 : decode prog_2_method_10_code 89 = .ok (.goto (-81), 3) := by decide +kernel
theorem d_XA_touchedBy_92 : decode prog_2_method_10_code 92 = .ok (.iload_n 2, 1) := by decide +kernel
theorem d_XA_touchedBy_93 : decode prog_2_method_10_code 93 = .ok (.ireturn, 1) := by decide +kernel
theorem d_XA_leftOf_0 : decode prog_2_method_5_code 0 = .ok (.iload_n 1, 1) := by decide +kernel
theorem d_XA_leftOf_1 : decode prog_2_method_5_code 1 = .ok (.ifCond .lt 20, 3) := by decide +kernel
theorem d_XA_leftOf_4 : decode prog_2_method_5_code 4 = .ok (.iload_n 1, 1) := by decide +kernel
theorem d_XA_leftOf_5 : decode prog_2_method_5_code 5 = .ok (.aload_n 0, 1) := by decide +kernel
theorem d_XA_leftOf_6 : decode prog_2_method_5_code 6 = .ok (.getfield 18, 3) := by decide +kernel
theorem d_XA_leftOf_9 : decode prog_2_method_5_code 9 = .ok (.if_icmp .ge 12, 3) := by decide +kernel
theorem d_XA_leftOf_12 : decode prog_2_method_5_code 12 = .ok (.aload_n 0, 1) := by decide +kernel
theorem d_XA_leftOf_13 : decode prog_2_method_5_code 13 = .ok (.getfield 9, 3) := by decide +kernel
theorem d_XA_leftOf_16 : decode prog_2_method_5_code 16 = .ok (.iload_n 1, 1) := by decide +kernel
theorem d_XA_leftOf_17 : decode prog_2_method_5_code 17 = .ok (.iaload, 1) := by decide +kernel
theorem d_XA_leftOf_18 : decode prog_2_method_5_code 18 = .ok (.goto 4, 3) := by decide +kernel
theorem d_XA_leftOf_21 : decode prog_2_method_5_code 21 = .ok (.iconst 0, 1) := by decide +kernel
theorem d_XA_leftOf_22 : decode prog_2_method_5_code 22 = .ok (.ireturn, 1) := by decide +kernel
theorem d_XK_forgetNo_0 : decode prog_3_method_13_code 0 = .ok (.iconst 0, 1) := by decide +kernel
theorem d_XK_forgetNo_1 : decode prog_3_method_13_code 1 = .ok (.istore_n 2, 1) := by decide +kernel
theorem d_XK_forgetNo_2 : decode prog_3_method_13_code 2 = .ok (.iload_n 2, 1) := by decide +kernel
theorem d_XK_forgetNo_3 : decode prog_3_method_13_code 3 = .ok (.bipush 20, 2) := by decide +kernel
theorem d_XK_forgetNo_5 : decode prog_3_method_13_code 5 = .ok (.if_icmp .ge 31, 3) := by decide +kernel
theorem d_XK_forgetNo_8 : decode prog_3_method_13_code 8 = .ok (.iload_n 1, 1) := by decide +kernel
theorem d_XK_forgetNo_9 : decode prog_3_method_13_code 9 = .ok (.iload_n 2, 1) := by decide +kernel
theorem d_XK_forgetNo_10 : decode prog_3_method_13_code 10 = .ok (.invokestatic 35, 3) := by decide +kernel
theorem d_XK_forgetNo_13 : decode prog_3_method_13_code 13 = .ok (.ifCond .eq 17, 3) := by decide +kernel
theorem d_XK_forgetNo_16 : decode prog_3_method_13_code 16 = .ok (.aload_n 0, 1) := by decide +kernel
theorem d_XK_forgetNo_17 : decode prog_3_method_13_code 17 = .ok (.getfield 18, 3) := by decide +kernel
theorem d_XK_forgetNo_20 : decode prog_3_method_13_code 20 = .ok (.iload_n 2, 1) := by decide +kernel
theorem d_XK_forgetNo_21 : decode prog_3_method_13_code 21 = .ok (.iconst 0, 1) := by decide +kernel
theorem d_XK_forgetNo_22 : decode prog_3_method_13_code 22 = .ok (.iastore, 1) := by decide +kernel
theorem d_XK_forgetNo_23 : decode prog_3_method_13_code 23 = .ok (.aload_n 0, 1) := by decide +kernel
theorem d_XK_forgetNo_24 : decode prog_3_method_13_code 24 = .ok (.getfield 21, 3) := by decide +kernel
theorem d_XK_forgetNo_27 : decode prog_3_method_13_code 27 = .ok (.iload_n 2, 1) := by decide +kernel
theorem d_XK_forgetNo_28 : decode prog_3_method_13_code 28 = .ok (.iconst 0, 1) := by decide +kernel
theorem d_XK_forgetNo_29 : decode prog_3_method_13_code 29 = .ok (.iastore, 1) := by decide +kernel
theorem d_XK_forgetNo_30 : decode prog_3_method_13_code 30 = .ok (.iinc 2 1, 3) := by decide +kernel
theorem d_XK_forgetNo_33 : decode prog_3_method_13_code 33 = .ok (.goto (-31), 3) := by decide +kernel
theorem d_XK_forgetNo_36 : decode prog_3_method_13_code 36 = .ok (.return_, 1) := by decide +kernel
theorem d_X_tellAxioms_0 : decode prog_1_method_22_code 0 = .ok (.iconst 0, 1) := by decide +kernel
theorem d_X_tellAxioms_1 : decode prog_1_method_22_code 1 = .ok (.istore_n 1, 1) := by decide +kernel
theorem d_X_tellAxioms_2 : decode prog_1_method_22_code 2 = .ok (.iload_n 1, 1) := by decide +kernel
theorem d_X_tellAxioms_3 : decode prog_1_method_22_code 3 = .ok (.bipush 40, 2) := by decide +kernel
theorem d_X_tellAxioms_5 : decode prog_1_method_22_code 5 = .ok (.if_icmp .ge 45, 3) := by decide +kernel
theorem d_X_tellAxioms_8 : decode prog_1_method_22_code 8 = .ok (.aload_n 0, 1) := by decide +kernel
theorem d_X_tellAxioms_9 : decode prog_1_method_22_code 9 = .ok (.getfield 12, 3) := by decide +kernel
theorem d_X_tellAxioms_12 : decode prog_1_method_22_code 12 = .ok (.iload_n 1, 1) := by decide +kernel
theorem d_X_tellAxioms_13 : decode prog_1_method_22_code 13 = .ok (.invokevirtual 182, 3) := by decide +kernel
theorem d_X_tellAxioms_16 : decode prog_1_method_22_code 16 = .ok (.istore_n 2, 1) := by decide +kernel
theorem d_X_tellAxioms_17 : decode prog_1_method_22_code 17 = .ok (.iload_n 2, 1) := by decide +kernel
theorem d_X_tellAxioms_18 : decode prog_1_method_22_code 18 = .ok (.invokestatic 152, 3) := by decide +kernel
theorem d_X_tellAxioms_21 : decode prog_1_method_22_code 21 = .ok (.iconst 1, 1) := by decide +kernel
theorem d_X_tellAxioms_22 : decode prog_1_method_22_code 22 = .ok (.if_icmp .ne 22, 3) := by decide +kernel
theorem d_X_tellAxioms_25 : decode prog_1_method_22_code 25 = .ok (.aload_n 0, 1) := by decide +kernel
theorem d_X_tellAxioms_26 : decode prog_1_method_22_code 26 = .ok (.getfield 28, 3) := by decide +kernel
theorem d_X_tellAxioms_29 : decode prog_1_method_22_code 29 = .ok (.iload_n 2, 1) := by decide +kernel
theorem d_X_tellAxioms_30 : decode prog_1_method_22_code 30 = .ok (.invokestatic 185, 3) := by decide +kernel
theorem d_X_tellAxioms_33 : decode prog_1_method_22_code 33 = .ok (.aload_n 0, 1) := by decide +kernel
theorem d_X_tellAxioms_34 : decode prog_1_method_22_code 34 = .ok (.getfield 12, 3) := by decide +kernel
theorem d_X_tellAxioms_37 : decode prog_1_method_22_code 37 = .ok (.iload_n 1, 1) := by decide +kernel
theorem d_X_tellAxioms_38 : decode prog_1_method_22_code 38 = .ok (.invokevirtual 188, 3) := by decide +kernel
theorem d_X_tellAxioms_41 : decode prog_1_method_22_code 41 = .ok (.invokevirtual 191, 3) := by decide +kernel
theorem d_X_tellAxioms_44 : decode prog_1_method_22_code 44 = .ok (.iinc 1 1, 3) := by decide +kernel
theorem d_X_tellAxioms_47 : decode prog_1_method_22_code 47 = .ok (.goto (-45), 3) := by decide +kernel
theorem d_X_tellAxioms_50 : decode prog_1_method_22_code 50 = .ok (.aload_n 0, 1) := by decide +kernel
theorem d_X_tellAxioms_51 : decode prog_1_method_22_code 51 = .ok (.getfield 28, 3) := by decide +kernel
theorem d_X_tellAxioms_54 : decode prog_1_method_22_code 54 = .ok (.invokevirtual 195, 3) := by decide +kernel
theorem d_X_tellAxioms_57 : decode prog_1_method_22_code 57 = .ok (.return_, 1) := by decide +kernel
theorem d_JI_bitCount_0 : decode prog_8_method_49_code 0 = .ok (.iload_n 0, 1) := by decide +kernel
theorem d_JI_bitCount_1 : decode prog_8_method_49_code 1 = .ok (.iload_n 0, 1) := by decide +kernel
theorem d_JI_bitCount_2 : decode prog_8_method_49_code 2 = .ok (.iconst 1, 1) := by decide +kernel
theorem d_JI_bitCount_3 : decode prog_8_method_49_code 3 = .ok (.iushr, 1) := by decide +kernel
theorem d_JI_bitCount_4 : decode prog_8_method_49_code 4 = .ok (.ldc_w 265, 3) := by decide +kernel
theorem d_JI_bitCount_7 : decode prog_8_method_49_code 7 = .ok (.iand, 1) := by decide +kernel
theorem d_JI_bitCount_8 : decode prog_8_method_49_code 8 = .ok (.isub, 1) := by decide +kernel
theorem d_JI_bitCount_9 : decode prog_8_method_49_code 9 = .ok (.istore_n 0, 1) := by decide +kernel
theorem d_JI_bitCount_10 : decode prog_8_method_49_code 10 = .ok (.iload_n 0, 1) := by decide +kernel
theorem d_JI_bitCount_11 : decode prog_8_method_49_code 11 = .ok (.ldc_w 266, 3) := by decide +kernel
theorem d_JI_bitCount_14 : decode prog_8_method_49_code 14 = .ok (.iand, 1) := by decide +kernel
theorem d_JI_bitCount_15 : decode prog_8_method_49_code 15 = .ok (.iload_n 0, 1) := by decide +kernel
theorem d_JI_bitCount_16 : decode prog_8_method_49_code 16 = .ok (.iconst 2, 1) := by decide +kernel
theorem d_JI_bitCount_17 : decode prog_8_method_49_code 17 = .ok (.iushr, 1) := by decide +kernel
theorem d_JI_bitCount_18 : decode prog_8_method_49_code 18 = .ok (.ldc_w 266, 3) := by decide +kernel
theorem d_JI_bitCount_21 : decode prog_8_method_49_code 21 = .ok (.iand, 1) := by decide +kernel
theorem d_JI_bitCount_22 : decode prog_8_method_49_code 22 = .ok (.iadd, 1) := by decide +kernel
theorem d_JI_bitCount_23 : decode prog_8_method_49_code 23 = .ok (.istore_n 0, 1) := by decide +kernel
theorem d_JI_bitCount_24 : decode prog_8_method_49_code 24 = .ok (.iload_n 0, 1) := by decide +kernel
theorem d_JI_bitCount_25 : decode prog_8_method_49_code 25 = .ok (.iload_n 0, 1) := by decide +kernel
theorem d_JI_bitCount_26 : decode prog_8_method_49_code 26 = .ok (.iconst 4, 1) := by decide +kernel
theorem d_JI_bitCount_27 : decode prog_8_method_49_code 27 = .ok (.iushr, 1) := by decide +kernel
theorem d_JI_bitCount_28 : decode prog_8_method_49_code 28 = .ok (.iadd, 1) := by decide +kernel
theorem d_JI_bitCount_29 : decode prog_8_method_49_code 29 = .ok (.ldc_w 267, 3) := by decide +kernel
theorem d_JI_bitCount_32 : decode prog_8_method_49_code 32 = .ok (.iand, 1) := by decide +kernel
theorem d_JI_bitCount_33 : decode prog_8_method_49_code 33 = .ok (.istore_n 0, 1) := by decide +kernel
theorem d_JI_bitCount_34 : decode prog_8_method_49_code 34 = .ok (.iload_n 0, 1) := by decide +kernel
theorem d_JI_bitCount_35 : decode prog_8_method_49_code 35 = .ok (.iload_n 0, 1) := by decide +kernel
theorem d_JI_bitCount_36 : decode prog_8_method_49_code 36 = .ok (.bipush 8, 2) := by decide +kernel
theorem d_JI_bitCount_38 : decode prog_8_method_49_code 38 = .ok (.iushr, 1) := by decide +kernel
theorem d_JI_bitCount_39 : decode prog_8_method_49_code 39 = .ok (.iadd, 1) := by decide +kernel
theorem d_JI_bitCount_40 : decode prog_8_method_49_code 40 = .ok (.istore_n 0, 1) := by decide +kernel
theorem d_JI_bitCount_41 : decode prog_8_method_49_code 41 = .ok (.iload_n 0, 1) := by decide +kernel
theorem d_JI_bitCount_42 : decode prog_8_method_49_code 42 = .ok (.iload_n 0, 1) := by decide +kernel
theorem d_JI_bitCount_43 : decode prog_8_method_49_code 43 = .ok (.bipush 16, 2) := by decide +kernel
theorem d_JI_bitCount_45 : decode prog_8_method_49_code 45 = .ok (.iushr, 1) := by decide +kernel
theorem d_JI_bitCount_46 : decode prog_8_method_49_code 46 = .ok (.iadd, 1) := by decide +kernel
theorem d_JI_bitCount_47 : decode prog_8_method_49_code 47 = .ok (.istore_n 0, 1) := by decide +kernel
theorem d_JI_bitCount_48 : decode prog_8_method_49_code 48 = .ok (.iload_n 0, 1) := by decide +kernel
theorem d_JI_bitCount_49 : decode prog_8_method_49_code 49 = .ok (.bipush 63, 2) := by decide +kernel
theorem d_JI_bitCount_51 : decode prog_8_method_49_code 51 = .ok (.iand, 1) := by decide +kernel
theorem d_JI_bitCount_52 : decode prog_8_method_49_code 52 = .ok (.ireturn, 1) := by decide +kernel
theorem d_JI_numberOfTrailingZeros_0 : decode prog_8_method_48_code 0 = .ok (.iload_n 0, 1) := by decide +kernel
theorem d_JI_numberOfTrailingZeros_1 : decode prog_8_method_48_code 1 = .ok (.iconst (-1), 1) := by decide +kernel
theorem d_JI_numberOfTrailingZeros_2 : decode prog_8_method_48_code 2 = .ok (.ixor, 1) := by decide +kernel
theorem d_JI_numberOfTrailingZeros_3 : decode prog_8_method_48_code 3 = .ok (.iload_n 0, 1) := by decide +kernel
theorem d_JI_numberOfTrailingZeros_4 : decode prog_8_method_48_code 4 = .ok (.iconst 1, 1) := by decide +kernel
theorem d_JI_numberOfTrailingZeros_5 : decode prog_8_method_48_code 5 = .ok (.isub, 1) := by decide +kernel
theorem d_JI_numberOfTrailingZeros_6 : decode prog_8_method_48_code 6 = .ok (.iand, 1) := by decide +kernel
theorem d_JI_numberOfTrailingZeros_7 : decode prog_8_method_48_code 7 = .ok (.istore_n 0, 1) := by decide +kernel
theorem d_JI_numberOfTrailingZeros_8 : decode prog_8_method_48_code 8 = .ok (.iload_n 0, 1) := by decide +kernel
theorem d_JI_numberOfTrailingZeros_9 : decode prog_8_method_48_code 9 = .ok (.ifCond .gt 8, 3) := by decide +kernel
theorem d_JI_numberOfTrailingZeros_12 : decode prog_8_method_48_code 12 = .ok (.iload_n 0, 1) := by decide +kernel
theorem d_JI_numberOfTrailingZeros_13 : decode prog_8_method_48_code 13 = .ok (.bipush 32, 2) := by decide +kernel
theorem d_JI_numberOfTrailingZeros_15 : decode prog_8_method_48_code 15 = .ok (.iand, 1) := by decide +kernel
theorem d_JI_numberOfTrailingZeros_16 : decode prog_8_method_48_code 16 = .ok (.ireturn, 1) := by decide +kernel
theorem d_JI_numberOfTrailingZeros_17 : decode prog_8_method_48_code 17 = .ok (.iconst 1, 1) := by decide +kernel
theorem d_JI_numberOfTrailingZeros_18 : decode prog_8_method_48_code 18 = .ok (.istore_n 1, 1) := by decide +kernel
theorem d_JI_numberOfTrailingZeros_19 : decode prog_8_method_48_code 19 = .ok (.iload_n 0, 1) := by decide +kernel
theorem d_JI_numberOfTrailingZeros_20 : decode prog_8_method_48_code 20 = .ok (.ldc_w 264, 3) := by decide +kernel
theorem d_JI_numberOfTrailingZeros_23 : decode prog_8_method_48_code 23 = .ok (.if_icmp .le 11, 3) := by decide +kernel
theorem d_JI_numberOfTrailingZeros_26 : decode prog_8_method_48_code 26 = .ok (.iinc 1 16, 3) := by decide +kernel
theorem d_JI_numberOfTrailingZeros_29 : decode prog_8_method_48_code 29 = .ok (.iload_n 0, 1) := by decide +kernel
theorem d_JI_numberOfTrailingZeros_30 : decode prog_8_method_48_code 30 = .ok (.bipush 16, 2) := by decide +kernel
theorem d_JI_numberOfTrailingZeros_32 : decode prog_8_method_48_code 32 = .ok (.iushr, 1) := by decide +kernel
theorem d_JI_numberOfTrailingZeros_33 : decode prog_8_method_48_code 33 = .ok (.istore_n 0, 1) := by decide +kernel
theorem d_JI_numberOfTrailingZeros_34 : decode prog_8_method_48_code 34 = .ok (.iload_n 0, 1) := by decide +kernel
theorem d_JI_numberOfTrailingZeros_35 : decode prog_8_method_48_code 35 = .ok (.sipush 256, 3) := by decide +kernel
theorem d_JI_numberOfTrailingZeros_38 : decode prog_8_method_48_code 38 = .ok (.if_icmp .le 11, 3) := by decide +kernel
theorem d_JI_numberOfTrailingZeros_41 : decode prog_8_method_48_code 41 = .ok (.iinc 1 8, 3) := by decide +kernel
theorem d_JI_numberOfTrailingZeros_44 : decode prog_8_method_48_code 44 = .ok (.iload_n 0, 1) := by decide +kernel
theorem d_JI_numberOfTrailingZeros_45 : decode prog_8_method_48_code 45 = .ok (.bipush 8, 2) := by decide +kernel
theorem d_JI_numberOfTrailingZeros_47 : decode prog_8_method_48_code 47 = .ok (.iushr, 1) := by decide +kernel
theorem d_JI_numberOfTrailingZeros_48 : decode prog_8_method_48_code 48 = .ok (.istore_n 0, 1) := by decide +kernel
theorem d_JI_numberOfTrailingZeros_49 : decode prog_8_method_48_code 49 = .ok (.iload_n 0, 1) := by decide +kernel
theorem d_JI_numberOfTrailingZeros_50 : decode prog_8_method_48_code 50 = .ok (.bipush 16, 2) := by decide +kernel
theorem d_JI_numberOfTrailingZeros_52 : decode prog_8_method_48_code 52 = .ok (.if_icmp .le 10, 3) := by decide +kernel
theorem d_JI_numberOfTrailingZeros_55 : decode prog_8_method_48_code 55 = .ok (.iinc 1 4, 3) := by decide +kernel
theorem d_JI_numberOfTrailingZeros_58 : decode prog_8_method_48_code 58 = .ok (.iload_n 0, 1) := by decide +kernel
theorem d_JI_numberOfTrailingZeros_59 : decode prog_8_method_48_code 59 = .ok (.iconst 4, 1) := by decide +kernel
theorem d_JI_numberOfTrailingZeros_60 : decode prog_8_method_48_code 60 = .ok (.iushr, 1) := by decide +kernel
theorem d_JI_numberOfTrailingZeros_61 : decode prog_8_method_48_code 61 = .ok (.istore_n 0, 1) := by decide +kernel
theorem d_JI_numberOfTrailingZeros_62 : decode prog_8_method_48_code 62 = .ok (.iload_n 0, 1) := by decide +kernel
theorem d_JI_numberOfTrailingZeros_63 : decode prog_8_method_48_code 63 = .ok (.iconst 4, 1) := by decide +kernel
theorem d_JI_numberOfTrailingZeros_64 : decode prog_8_method_48_code 64 = .ok (.if_icmp .le 10, 3) := by decide +kernel
theorem d_JI_numberOfTrailingZeros_67 : decode prog_8_method_48_code 67 = .ok (.iinc 1 2, 3) := by decide +kernel
theorem d_JI_numberOfTrailingZeros_70 : decode prog_8_method_48_code 70 = .ok (.iload_n 0, 1) := by decide +kernel
theorem d_JI_numberOfTrailingZeros_71 : decode prog_8_method_48_code 71 = .ok (.iconst 2, 1) := by decide +kernel
theorem d_JI_numberOfTrailingZeros_72 : decode prog_8_method_48_code 72 = .ok (.iushr, 1) := by decide +kernel
theorem d_JI_numberOfTrailingZeros_73 : decode prog_8_method_48_code 73 = .ok (.istore_n 0, 1) := by decide +kernel
theorem d_JI_numberOfTrailingZeros_74 : decode prog_8_method_48_code 74 = .ok (.iload_n 1, 1) := by decide +kernel
theorem d_JI_numberOfTrailingZeros_75 : decode prog_8_method_48_code 75 = .ok (.iload_n 0, 1) := by decide +kernel
theorem d_JI_numberOfTrailingZeros_76 : decode prog_8_method_48_code 76 = .ok (.iconst 1, 1) := by decide +kernel
theorem d_JI_numberOfTrailingZeros_77 : decode prog_8_method_48_code 77 = .ok (.iushr, 1) := by decide +kernel
theorem d_JI_numberOfTrailingZeros_78 : decode prog_8_method_48_code 78 = .ok (.iadd, 1) := by decide +kernel
theorem d_JI_numberOfTrailingZeros_79 : decode prog_8_method_48_code 79 = .ok (.ireturn, 1) := by decide +kernel
theorem d_XA_rightOf_0 : decode prog_2_method_6_code 0 = .ok (.iload_n 1, 1) := by decide +kernel
theorem d_XA_rightOf_1 : decode prog_2_method_6_code 1 = .ok (.ifCond .lt 20, 3) := by decide +kernel
theorem d_XA_rightOf_4 : decode prog_2_method_6_code 4 = .ok (.iload_n 1, 1) := by decide +kernel
theorem d_XA_rightOf_5 : decode prog_2_method_6_code 5 = .ok (.aload_n 0, 1) := by decide +kernel
theorem d_XA_rightOf_6 : decode prog_2_method_6_code 6 = .ok (.getfield 18, 3) := by decide +kernel
theorem d_XA_rightOf_9 : decode prog_2_method_6_code 9 = .ok (.if_icmp .ge 12, 3) := by decide +kernel
theorem d_XA_rightOf_12 : decode prog_2_method_6_code 12 = .ok (.aload_n 0, 1) := by decide +kernel
theorem d_XA_rightOf_13 : decode prog_2_method_6_code 13 = .ok (.getfield 15, 3) := by decide +kernel
theorem d_XA_rightOf_16 : decode prog_2_method_6_code 16 = .ok (.iload_n 1, 1) := by decide +kernel
theorem d_XA_rightOf_17 : decode prog_2_method_6_code 17 = .ok (.iaload, 1) := by decide +kernel
theorem d_XA_rightOf_18 : decode prog_2_method_6_code 18 = .ok (.goto 5, 3) := by decide +kernel
theorem d_XA_rightOf_21 : decode prog_2_method_6_code 21 = .ok (.bipush 20, 2) := by decide +kernel
theorem d_XA_rightOf_23 : decode prog_2_method_6_code 23 = .ok (.ireturn, 1) := by decide +kernel
theorem d_X_remove_0 : decode prog_1_method_5_code 0 = .ok (.aload_n 0, 1) := by decide +kernel
theorem d_X_remove_1 : decode prog_1_method_5_code 1 = .ok (.getfield 12, 3) := by decide +kernel
theorem d_X_remove_4 : decode prog_1_method_5_code 4 = .ok (.iload_n 1, 1) := by decide +kernel
theorem d_X_remove_5 : decode prog_1_method_5_code 5 = .ok (.invokevirtual 94, 3) := by decide +kernel
theorem d_X_remove_8 : decode prog_1_method_5_code 8 = .ok (.ifCond .ne 5, 3) := by decide +kernel
theorem d_X_remove_11 : decode prog_1_method_5_code 11 = .ok (.iconst (-1), 1) := by decide +kernel
theorem d_X_remove_12 : decode prog_1_method_5_code 12 = .ok (.ireturn, 1) := by decide +kernel
theorem d_X_remove_13 : decode prog_1_method_5_code 13 = .ok (.aload_n 0, 1) := by decide +kernel
theorem d_X_remove_14 : decode prog_1_method_5_code 14 = .ok (.getfield 28, 3) := by decide +kernel
theorem d_X_remove_17 : decode prog_1_method_5_code 17 = .ok (.aload_n 0, 1) := by decide +kernel
theorem d_X_remove_18 : decode prog_1_method_5_code 18 = .ok (.getfield 45, 3) := by decide +kernel
theorem d_X_remove_21 : decode prog_1_method_5_code 21 = .ok (.invokevirtual 97, 3) := by decide +kernel
theorem d_X_remove_24 : decode prog_1_method_5_code 24 = .ok (.istore_n 2, 1) := by decide +kernel
theorem d_X_remove_25 : decode prog_1_method_5_code 25 = .ok (.aload_n 0, 1) := by decide +kernel
theorem d_X_remove_26 : decode prog_1_method_5_code 26 = .ok (.getfield 12, 3) := by decide +kernel
theorem d_X_remove_29 : decode prog_1_method_5_code 29 = .ok (.iload_n 1, 1) := by decide +kernel
theorem d_X_remove_30 : decode prog_1_method_5_code 30 = .ok (.invokevirtual 85, 3) := by decide +kernel
theorem d_X_remove_33 : decode prog_1_method_5_code 33 = .ok (.istore_n 3, 1) := by decide +kernel
theorem d_X_remove_34 : decode prog_1_method_5_code 34 = .ok (.aload_n 0, 1) := by decide +kernel
theorem d_X_remove_35 : decode prog_1_method_5_code 35 = .ok (.getfield 12, 3) := by decide +kernel
theorem d_X_remove_38 : decode prog_1_method_5_code 38 = .ok (.iload_n 1, 1) := by decide +kernel
theorem d_X_remove_39 : decode prog_1_method_5_code 39 = .ok (.invokevirtual 100, 3) := by decide +kernel
theorem d_X_remove_42 : decode prog_1_method_5_code 42 = .ok (.aload_n 0, 1) := by decide +kernel
theorem d_X_remove_43 : decode prog_1_method_5_code 43 = .ok (.getfield 28, 3) := by decide +kernel
theorem d_X_remove_46 : decode prog_1_method_5_code 46 = .ok (.iload_n 3, 1) := by decide +kernel
theorem d_X_remove_47 : decode prog_1_method_5_code 47 = .ok (.invokevirtual 103, 3) := by decide +kernel
theorem d_X_remove_50 : decode prog_1_method_5_code 50 = .ok (.aload_n 0, 1) := by decide +kernel
theorem d_X_remove_51 : decode prog_1_method_5_code 51 = .ok (.invokevirtual 91, 3) := by decide +kernel
theorem d_X_remove_54 : decode prog_1_method_5_code 54 = .ok (.aload_n 0, 1) := by decide +kernel
theorem d_X_remove_55 : decode prog_1_method_5_code 55 = .ok (.iconst 0, 1) := by decide +kernel
theorem d_X_remove_56 : decode prog_1_method_5_code 56 = .ok (.putfield 55, 3) := by decide +kernel
theorem d_X_remove_59 : decode prog_1_method_5_code 59 = .ok (.iload_n 2, 1) := by decide +kernel
theorem d_X_remove_60 : decode prog_1_method_5_code 60 = .ok (.aload_n 0, 1) := by decide +kernel
theorem d_X_remove_61 : decode prog_1_method_5_code 61 = .ok (.getfield 28, 3) := by decide +kernel
theorem d_X_remove_64 : decode prog_1_method_5_code 64 = .ok (.aload_n 0, 1) := by decide +kernel
theorem d_X_remove_65 : decode prog_1_method_5_code 65 = .ok (.getfield 45, 3) := by decide +kernel
theorem d_X_remove_68 : decode prog_1_method_5_code 68 = .ok (.invokevirtual 97, 3) := by decide +kernel
theorem d_X_remove_71 : decode prog_1_method_5_code 71 = .ok (.isub, 1) := by decide +kernel
theorem d_X_remove_72 : decode prog_1_method_5_code 72 = .ok (.ireturn, 1) := by decide +kernel
theorem d_XA_isThere_0 : decode prog_2_method_3_code 0 = .ok (.aload_n 0, 1) := by decide +kernel
theorem d_XA_isThere_1 : decode prog_2_method_3_code 1 = .ok (.iload_n 1, 1) := by decide +kernel
theorem d_XA_isThere_2 : decode prog_2_method_3_code 2 = .ok (.invokevirtual 25, 3) := by decide +kernel
theorem d_XA_isThere_5 : decode prog_2_method_3_code 5 = .ok (.ifCond .eq 7, 3) := by decide +kernel
theorem d_XA_isThere_8 : decode prog_2_method_3_code 8 = .ok (.iconst 1, 1) := by decide +kernel
theorem d_XA_isThere_9 : decode prog_2_method_3_code 9 = .ok (.goto 4, 3) := by decide +kernel
theorem d_XA_isThere_12 : decode prog_2_method_3_code 12 = .ok (.iconst 0, 1) := by decide +kernel
theorem d_XA_isThere_13 : decode prog_2_method_3_code 13 = .ok (.ireturn, 1) := by decide +kernel
theorem d_XK_knownPairs_0 : decode prog_3_method_16_code 0 = .ok (.iconst 0, 1) := by decide +kernel
theorem d_XK_knownPairs_1 : decode prog_3_method_16_code 1 = .ok (.istore_n 2, 1) := by decide +kernel
theorem d_XK_knownPairs_2 : decode prog_3_method_16_code 2 = .ok (.iconst 0, 1) := by decide +kernel
theorem d_XK_knownPairs_3 : decode prog_3_method_16_code 3 = .ok (.istore_n 3, 1) := by decide +kernel
theorem d_XK_knownPairs_4 : decode prog_3_method_16_code 4 = .ok (.iload_n 3, 1) := by decide +kernel
theorem d_XK_knownPairs_5 : decode prog_3_method_16_code 5 = .ok (.iload_n 1, 1) := by decide +kernel
theorem d_XK_knownPairs_6 : decode prog_3_method_16_code 6 = .ok (.if_icmp .ge 41, 3) := by decide +kernel
theorem d_XK_knownPairs_9 : decode prog_3_method_16_code 9 = .ok (.iload_n 3, 1) := by decide +kernel
theorem d_XK_knownPairs_10 : decode prog_3_method_16_code 10 = .ok (.bipush 20, 2) := by decide +kernel
theorem d_XK_knownPairs_12 : decode prog_3_method_16_code 12 = .ok (.if_icmp .ge 35, 3) := by decide +kernel
theorem d_XK_knownPairs_15 : decode prog_3_method_16_code 15 = .ok (.iload_n 2, 1) := by decide +kernel
theorem d_XK_knownPairs_16 : decode prog_3_method_16_code 16 = .ok (.aload_n 0, 1) := by decide +kernel
theorem d_XK_knownPairs_17 : decode prog_3_method_16_code 17 = .ok (.getfield 9, 3) := by decide +kernel
theorem d_XK_knownPairs_20 : decode prog_3_method_16_code 20 = .ok (.iload_n 3, 1) := by decide +kernel
theorem d_XK_knownPairs_21 : decode prog_3_method_16_code 21 = .ok (.iaload, 1) := by decide +kernel
theorem d_XK_knownPairs_22 : decode prog_3_method_16_code 22 = .ok (.aload_n 0, 1) := by decide +kernel
theorem d_XK_knownPairs_23 : decode prog_3_method_16_code 23 = .ok (.getfield 18, 3) := by decide +kernel
theorem d_XK_knownPairs_26 : decode prog_3_method_16_code 26 = .ok (.iload_n 3, 1) := by decide +kernel
theorem d_XK_knownPairs_27 : decode prog_3_method_16_code 27 = .ok (.iaload, 1) := by decide +kernel
theorem d_XK_knownPairs_28 : decode prog_3_method_16_code 28 = .ok (.ior, 1) := by decide +kernel
theorem d_XK_knownPairs_29 : decode prog_3_method_16_code 29 = .ok (.aload_n 0, 1) := by decide +kernel
theorem d_XK_knownPairs_30 : decode prog_3_method_16_code 30 = .ok (.getfield 21, 3) := by decide +kernel
theorem d_XK_knownPairs_33 : decode prog_3_method_16_code 33 = .ok (.iload_n 3, 1) := by decide +kernel
theorem d_XK_knownPairs_34 : decode prog_3_method_16_code 34 = .ok (.iaload, 1) := by decide +kernel
theorem d_XK_knownPairs_35 : decode prog_3_method_16_code 35 = .ok (.ior, 1) := by decide +kernel
theorem d_XK_knownPairs_36 : decode prog_3_method_16_code 36 = .ok (.invokestatic 43, 3) := by decide +kernel
theorem d_XK_knownPairs_39 : decode prog_3_method_16_code 39 = .ok (.iadd, 1) := by decide +kernel
theorem d_XK_knownPairs_40 : decode prog_3_method_16_code 40 = .ok (.istore_n 2, 1) := by decide +kernel
theorem d_XK_knownPairs_41 : decode prog_3_method_16_code 41 = .ok (.iinc 3 1, 3) := by decide +kernel
theorem d_XK_knownPairs_44 : decode prog_3_method_16_code 44 = .ok (.goto (-40), 3) := by decide +kernel
theorem d_XK_knownPairs_47 : decode prog_3_method_16_code 47 = .ok (.iload_n 2, 1) := by decide +kernel
theorem d_XK_knownPairs_48 : decode prog_3_method_16_code 48 = .ok (.ireturn, 1) := by decide +kernel
theorem d_XA_drop_0 : decode prog_2_method_8_code 0 = .ok (.aload_n 0, 1) := by decide +kernel
theorem d_XA_drop_1 : decode prog_2_method_8_code 1 = .ok (.iload_n 1, 1) := by decide +kernel
theorem d_XA_drop_2 : decode prog_2_method_8_code 2 = .ok (.invokevirtual 33, 3) := by decide +kernel
theorem d_XA_drop_5 : decode prog_2_method_8_code 5 = .ok (.ifCond .eq 20, 3) := by decide +kernel
theorem d_XA_drop_8 : decode prog_2_method_8_code 8 = .ok (.aload_n 0, 1) := by decide +kernel
theorem d_XA_drop_9 : decode prog_2_method_8_code 9 = .ok (.getfield 9, 3) := by decide +kernel
theorem d_XA_drop_12 : decode prog_2_method_8_code 12 = .ok (.iload_n 1, 1) := by decide +kernel
theorem d_XA_drop_13 : decode prog_2_method_8_code 13 = .ok (.iconst 0, 1) := by decide +kernel
theorem d_XA_drop_14 : decode prog_2_method_8_code 14 = .ok (.iastore, 1) := by decide +kernel
theorem d_XA_drop_15 : decode prog_2_method_8_code 15 = .ok (.aload_n 0, 1) := by decide +kernel
theorem d_XA_drop_16 : decode prog_2_method_8_code 16 = .ok (.dup, 1) := by decide +kernel
theorem d_XA_drop_17 : decode prog_2_method_8_code 17 = .ok (.getfield 22, 3) := by decide +kernel
theorem d_XA_drop_20 : decode prog_2_method_8_code 20 = .ok (.iconst 1, 1) := by decide +kernel
theorem d_XA_drop_21 : decode prog_2_method_8_code 21 = .ok (.isub, 1) := by decide +kernel
theorem d_XA_drop_22 : decode prog_2_method_8_code 22 = .ok (.putfield 22, 3) := by decide +kernel
theorem d_XA_drop_25 : decode prog_2_method_8_code 25 = .ok (.return_, 1) := by decide +kernel
theorem d_XK_forgetYes_0 : decode prog_3_method_14_code 0 = .ok (.iconst 0, 1) := by decide +kernel
theorem d_XK_forgetYes_1 : decode prog_3_method_14_code 1 = .ok (.istore_n 2, 1) := by decide +kernel
theorem d_XK_forgetYes_2 : decode prog_3_method_14_code 2 = .ok (.iload_n 2, 1) := by decide +kernel
theorem d_XK_forgetYes_3 : decode prog_3_method_14_code 3 = .ok (.bipush 21, 2) := by decide +kernel
theorem d_XK_forgetYes_5 : decode prog_3_method_14_code 5 = .ok (.if_icmp .ge 59, 3) := by decide +kernel
theorem d_XK_forgetYes_8 : decode prog_3_method_14_code 8 = .ok (.aload_n 0, 1) := by decide +kernel
theorem d_XK_forgetYes_9 : decode prog_3_method_14_code 9 = .ok (.getfield 15, 3) := by decide +kernel
theorem d_XK_forgetYes_12 : decode prog_3_method_14_code 12 = .ok (.iload_n 2, 1) := by decide +kernel
theorem d_XK_forgetYes_13 : decode prog_3_method_14_code 13 = .ok (.dup2, 1) := by decide +kernel
theorem d_XK_forgetYes_14 : decode prog_3_method_14_code 14 = .ok (.iaload, 1) := by decide +kernel
theorem d_XK_forgetYes_15 : decode prog_3_method_14_code 15 = .ok (.iload_n 1, 1) := by decide +kernel
theorem d_XK_forgetYes_16 : decode prog_3_method_14_code 16 = .ok (.iconst (-1), 1) := by decide +kernel
theorem d_XK_forgetYes_17 : decode prog_3_method_14_code 17 = .ok (.ixor, 1) := by decide +kernel
theorem d_XK_forgetYes_18 : decode prog_3_method_14_code 18 = .ok (.iand, 1) := by decide +kernel
theorem d_XK_forgetYes_19 : decode prog_3_method_14_code 19 = .ok (.iastore, 1) := by decide +kernel
theorem d_XK_forgetYes_20 : decode prog_3_method_14_code 20 = .ok (.iload_n 1, 1) := by decide +kernel
theorem d_XK_forgetYes_21 : decode prog_3_method_14_code 21 = .ok (.iload_n 2, 1) := by decide +kernel
theorem d_XK_forgetYes_22 : decode prog_3_method_14_code 22 = .ok (.invokestatic 35, 3) := by decide +kernel
theorem d_XK_forgetYes_25 : decode prog_3_method_14_code 25 = .ok (.ifCond .eq 33, 3) := by decide +kernel
theorem d_XK_forgetYes_28 : decode prog_3_method_14_code 28 = .ok (.aload_n 0, 1) := by decide +kernel
theorem d_XK_forgetYes_29 : decode prog_3_method_14_code 29 = .ok (.getfield 9, 3) := by decide +kernel
theorem d_XK_forgetYes_32 : decode prog_3_method_14_code 32 = .ok (.iload_n 2, 1) := by decide +kernel
theorem d_XK_forgetYes_33 : decode prog_3_method_14_code 33 = .ok (.iload_n 2, 1) := by decide +kernel
theorem d_XK_forgetYes_34 : decode prog_3_method_14_code 34 = .ok (.invokestatic 24, 3) := by decide +kernel
theorem d_XK_forgetYes_37 : decode prog_3_method_14_code 37 = .ok (.iastore, 1) := by decide +kernel
theorem d_XK_forgetYes_38 : decode prog_3_method_14_code 38 = .ok (.aload_n 0, 1) := by decide +kernel
theorem d_XK_forgetYes_39 : decode prog_3_method_14_code 39 = .ok (.getfield 15, 3) := by decide +kernel
theorem d_XK_forgetYes_42 : decode prog_3_method_14_code 42 = .ok (.iload_n 2, 1) := by decide +kernel
theorem d_XK_forgetYes_43 : decode prog_3_method_14_code 43 = .ok (.dup2, 1) := by decide +kernel
theorem d_XK_forgetYes_44 : decode prog_3_method_14_code 44 = .ok (.iaload, 1) := by decide +kernel
theorem d_XK_forgetYes_45 : decode prog_3_method_14_code 45 = .ok (.iload_n 2, 1) := by decide +kernel
theorem d_XK_forgetYes_46 : decode prog_3_method_14_code 46 = .ok (.invokestatic 24, 3) := by decide +kernel
theorem d_XK_forgetYes_49 : decode prog_3_method_14_code 49 = .ok (.ior, 1) := by decide +kernel
theorem d_XK_forgetYes_50 : decode prog_3_method_14_code 50 = .ok (.iastore, 1) := by decide +kernel
theorem d_XK_forgetYes_51 : decode prog_3_method_14_code 51 = .ok (.aload_n 0, 1) := by decide +kernel
theorem d_XK_forgetYes_52 : decode prog_3_method_14_code 52 = .ok (.getfield 21, 3) := by decide +kernel
theorem d_XK_forgetYes_55 : decode prog_3_method_14_code 55 = .ok (.iload_n 2, 1) := by decide +kernel
theorem d_XK_forgetYes_56 : decode prog_3_method_14_code 56 = .ok (.iconst 0, 1) := by decide +kernel
theorem d_XK_forgetYes_57 : decode prog_3_method_14_code 57 = .ok (.iastore, 1) := by decide +kernel
theorem d_XK_forgetYes_58 : decode prog_3_method_14_code 58 = .ok (.iinc 2 1, 3) := by decide +kernel
theorem d_XK_forgetYes_61 : decode prog_3_method_14_code 61 = .ok (.goto (-59), 3) := by decide +kernel
theorem d_XK_forgetYes_64 : decode prog_3_method_14_code 64 = .ok (.return_, 1) := by decide +kernel
theorem d_X_fuel_0 : decode prog_1_method_6_code 0 = .ok (.iload_n 1, 1) := by decide +kernel
theorem d_X_fuel_1 : decode prog_1_method_6_code 1 = .ok (.ifCond .lt 9, 3) := by decide +kernel
theorem d_X_fuel_4 : decode prog_1_method_6_code 4 = .ok (.iload_n 1, 1) := by decide +kernel
theorem d_X_fuel_5 : decode prog_1_method_6_code 5 = .ok (.bipush 20, 2) := by decide +kernel
theorem d_X_fuel_7 : decode prog_1_method_6_code 7 = .ok (.if_icmp .le 6, 3) := by decide +kernel
theorem d_X_fuel_10 : decode prog_1_method_6_code 10 = .ok (.bipush (-2), 2) := by decide +kernel
theorem d_X_fuel_12 : decode prog_1_method_6_code 12 = .ok (.ireturn, 1) := by decide +kernel
theorem d_X_fuel_13 : decode prog_1_method_6_code 13 = .ok (.aload_n 0, 1) := by decide +kernel
theorem d_X_fuel_14 : decode prog_1_method_6_code 14 = .ok (.getfield 28, 3) := by decide +kernel
theorem d_X_fuel_17 : decode prog_1_method_6_code 17 = .ok (.aload_n 0, 1) := by decide +kernel
theorem d_X_fuel_18 : decode prog_1_method_6_code 18 = .ok (.getfield 45, 3) := by decide +kernel
theorem d_X_fuel_21 : decode prog_1_method_6_code 21 = .ok (.invokevirtual 106, 3) := by decide +kernel
theorem d_X_fuel_24 : decode prog_1_method_6_code 24 = .ok (.istore_n 2, 1) := by decide +kernel
theorem d_X_fuel_25 : decode prog_1_method_6_code 25 = .ok (.aload_n 0, 1) := by decide +kernel
theorem d_X_fuel_26 : decode prog_1_method_6_code 26 = .ok (.getfield 21, 3) := by decide +kernel
theorem d_X_fuel_29 : decode prog_1_method_6_code 29 = .ok (.iload_n 1, 1) := by decide +kernel
theorem d_X_fuel_30 : decode prog_1_method_6_code 30 = .ok (.invokevirtual 109, 3) := by decide +kernel
theorem d_X_fuel_33 : decode prog_1_method_6_code 33 = .ok (.aload_n 0, 1) := by decide +kernel
theorem d_X_fuel_34 : decode prog_1_method_6_code 34 = .ok (.getfield 28, 3) := by decide +kernel
theorem d_X_fuel_37 : decode prog_1_method_6_code 37 = .ok (.invokevirtual 112, 3) := by decide +kernel
theorem d_X_fuel_40 : decode prog_1_method_6_code 40 = .ok (.aload_n 0, 1) := by decide +kernel
theorem d_X_fuel_41 : decode prog_1_method_6_code 41 = .ok (.iconst 0, 1) := by decide +kernel
theorem d_X_fuel_42 : decode prog_1_method_6_code 42 = .ok (.putfield 55, 3) := by decide +kernel
theorem d_X_fuel_45 : decode prog_1_method_6_code 45 = .ok (.iload_n 2, 1) := by decide +kernel
theorem d_X_fuel_46 : decode prog_1_method_6_code 46 = .ok (.ireturn, 1) := by decide +kernel
theorem d_XK_openPairs_0 : decode prog_3_method_17_code 0 = .ok (.iconst 0, 1) := by decide +kernel
theorem d_XK_openPairs_1 : decode prog_3_method_17_code 1 = .ok (.istore_n 2, 1) := by decide +kernel
theorem d_XK_openPairs_2 : decode prog_3_method_17_code 2 = .ok (.iconst 0, 1) := by decide +kernel
theorem d_XK_openPairs_3 : decode prog_3_method_17_code 3 = .ok (.istore_n 3, 1) := by decide +kernel
theorem d_XK_openPairs_4 : decode prog_3_method_17_code 4 = .ok (.iload_n 3, 1) := by decide +kernel
theorem d_XK_openPairs_5 : decode prog_3_method_17_code 5 = .ok (.iload_n 1, 1) := by decide +kernel
theorem d_XK_openPairs_6 : decode prog_3_method_17_code 6 = .ok (.if_icmp .ge 27, 3) := by decide +kernel
theorem d_XK_openPairs_9 : decode prog_3_method_17_code 9 = .ok (.iload_n 3, 1) := by decide +kernel
theorem d_XK_openPairs_10 : decode prog_3_method_17_code 10 = .ok (.bipush 20, 2) := by decide +kernel
theorem d_XK_openPairs_12 : decode prog_3_method_17_code 12 = .ok (.if_icmp .ge 21, 3) := by decide +kernel
theorem d_XK_openPairs_15 : decode prog_3_method_17_code 15 = .ok (.iload_n 2, 1) := by decide +kernel
theorem d_XK_openPairs_16 : decode prog_3_method_17_code 16 = .ok (.aload_n 0, 1) := by decide +kernel
theorem d_XK_openPairs_17 : decode prog_3_method_17_code 17 = .ok (.getfield 21, 3) := by decide +kernel
theorem d_XK_openPairs_20 : decode prog_3_method_17_code 20 = .ok (.iload_n 3, 1) := by decide +kernel
theorem d_XK_openPairs_21 : decode prog_3_method_17_code 21 = .ok (.iaload, 1) := by decide +kernel
theorem d_XK_openPairs_22 : decode prog_3_method_17_code 22 = .ok (.invokestatic 43, 3) := by decide +kernel
theorem d_XK_openPairs_25 : decode prog_3_method_17_code 25 = .ok (.iadd, 1) := by decide +kernel
theorem d_XK_openPairs_26 : decode prog_3_method_17_code 26 = .ok (.istore_n 2, 1) := by decide +kernel
theorem d_XK_openPairs_27 : decode prog_3_method_17_code 27 = .ok (.iinc 3 1, 3) := by decide +kernel
theorem d_XK_openPairs_30 : decode prog_3_method_17_code 30 = .ok (.goto (-26), 3) := by decide +kernel
theorem d_XK_openPairs_33 : decode prog_3_method_17_code 33 = .ok (.iload_n 2, 1) := by decide +kernel
theorem d_XK_openPairs_34 : decode prog_3_method_17_code 34 = .ok (.ireturn, 1) := by decide +kernel
theorem d_XR_fillUp_0 : decode prog_5_method_2_code 0 = .ok (.aload_n 0, 1) := by decide +kernel
theorem d_XR_fillUp_1 : decode prog_5_method_2_code 1 = .ok (.iconst 0, 1) := by decide +kernel
theorem d_XR_fillUp_2 : decode prog_5_method_2_code 2 = .ok (.iload_n 1, 1) := by decide +kernel
theorem d_XR_fillUp_3 : decode prog_5_method_2_code 3 = .ok (.bipush 20, 2) := by decide +kernel
theorem d_XR_fillUp_5 : decode prog_5_method_2_code 5 = .ok (.invokestatic 29, 3) := by decide +kernel
theorem d_XR_fillUp_8 : decode prog_5_method_2_code 8 = .ok (.invokestatic 35, 3) := by decide +kernel
theorem d_XR_fillUp_11 : decode prog_5_method_2_code 11 = .ok (.putfield 15, 3) := by decide +kernel
theorem d_XR_fillUp_14 : decode prog_5_method_2_code 14 = .ok (.return_, 1) := by decide +kernel
theorem d_XK_forgetOpen_0 : decode prog_3_method_15_code 0 = .ok (.iconst 0, 1) := by decide +kernel
theorem d_XK_forgetOpen_1 : decode prog_3_method_15_code 1 = .ok (.istore_n 1, 1) := by decide +kernel
theorem d_XK_forgetOpen_2 : decode prog_3_method_15_code 2 = .ok (.iload_n 1, 1) := by decide +kernel
theorem d_XK_forgetOpen_3 : decode prog_3_method_15_code 3 = .ok (.bipush 21, 2) := by decide +kernel
theorem d_XK_forgetOpen_5 : decode prog_3_method_15_code 5 = .ok (.if_icmp .ge 16, 3) := by decide +kernel
theorem d_XK_forgetOpen_8 : decode prog_3_method_15_code 8 = .ok (.aload_n 0, 1) := by decide +kernel
theorem d_XK_forgetOpen_9 : decode prog_3_method_15_code 9 = .ok (.getfield 21, 3) := by decide +kernel
theorem d_XK_forgetOpen_12 : decode prog_3_method_15_code 12 = .ok (.iload_n 1, 1) := by decide +kernel
theorem d_XK_forgetOpen_13 : decode prog_3_method_15_code 13 = .ok (.iconst 0, 1) := by decide +kernel
theorem d_XK_forgetOpen_14 : decode prog_3_method_15_code 14 = .ok (.iastore, 1) := by decide +kernel
theorem d_XK_forgetOpen_15 : decode prog_3_method_15_code 15 = .ok (.iinc 1 1, 3) := by decide +kernel
theorem d_XK_forgetOpen_18 : decode prog_3_method_15_code 18 = .ok (.goto (-16), 3) := by decide +kernel
theorem d_XK_forgetOpen_21 : decode prog_3_method_15_code 21 = .ok (.return_, 1) := by decide +kernel
theorem d_X_known_0 : decode prog_1_method_7_code 0 = .ok (.aload_n 0, 1) := by decide +kernel
theorem d_X_known_1 : decode prog_1_method_7_code 1 = .ok (.iload_n 1, 1) := by decide +kernel
theorem d_X_known_2 : decode prog_1_method_7_code 2 = .ok (.invokevirtual 63, 3) := by decide +kernel
theorem d_X_known_5 : decode prog_1_method_7_code 5 = .ok (.ifCond .eq 11, 3) := by decide +kernel
theorem d_X_known_8 : decode prog_1_method_7_code 8 = .ok (.aload_n 0, 1) := by decide +kernel
theorem d_X_known_9 : decode prog_1_method_7_code 9 = .ok (.iload_n 2, 1) := by decide +kernel
theorem d_X_known_10 : decode prog_1_method_7_code 10 = .ok (.invokevirtual 67, 3) := by decide +kernel
theorem d_X_known_13 : decode prog_1_method_7_code 13 = .ok (.ifCond .ne 5, 3) := by decide +kernel
theorem d_X_known_16 : decode prog_1_method_7_code 16 = .ok (.iconst (-1), 1) := by decide +kernel
theorem d_X_known_17 : decode prog_1_method_7_code 17 = .ok (.ireturn, 1) := by decide +kernel
theorem d_X_known_18 : decode prog_1_method_7_code 18 = .ok (.aload_n 0, 1) := by decide +kernel
theorem d_X_known_19 : decode prog_1_method_7_code 19 = .ok (.getfield 28, 3) := by decide +kernel
theorem d_X_known_22 : decode prog_1_method_7_code 22 = .ok (.iload_n 1, 1) := by decide +kernel
theorem d_X_known_23 : decode prog_1_method_7_code 23 = .ok (.iload_n 2, 1) := by decide +kernel
theorem d_X_known_24 : decode prog_1_method_7_code 24 = .ok (.invokestatic 78, 3) := by decide +kernel
theorem d_X_known_27 : decode prog_1_method_7_code 27 = .ok (.invokevirtual 115, 3) := by decide +kernel
theorem d_X_known_30 : decode prog_1_method_7_code 30 = .ok (.ireturn, 1) := by decide +kernel
theorem d_XK_of_0 : decode prog_3_method_3_code 0 = .ok (.aload_n 0, 1) := by decide +kernel
theorem d_XK_of_1 : decode prog_3_method_3_code 1 = .ok (.getfield 9, 3) := by decide +kernel
theorem d_XK_of_4 : decode prog_3_method_3_code 4 = .ok (.iload_n 1, 1) := by decide +kernel
theorem d_XK_of_5 : decode prog_3_method_3_code 5 = .ok (.iaload, 1) := by decide +kernel
theorem d_XK_of_6 : decode prog_3_method_3_code 6 = .ok (.iload_n 2, 1) := by decide +kernel
theorem d_XK_of_7 : decode prog_3_method_3_code 7 = .ok (.invokestatic 35, 3) := by decide +kernel
theorem d_XK_of_10 : decode prog_3_method_3_code 10 = .ok (.ifCond .eq 5, 3) := by decide +kernel
theorem d_XK_of_13 : decode prog_3_method_3_code 13 = .ok (.iconst 1, 1) := by decide +kernel
theorem d_XK_of_14 : decode prog_3_method_3_code 14 = .ok (.ireturn, 1) := by decide +kernel
theorem d_XK_of_15 : decode prog_3_method_3_code 15 = .ok (.aload_n 0, 1) := by decide +kernel
theorem d_XK_of_16 : decode prog_3_method_3_code 16 = .ok (.getfield 18, 3) := by decide +kernel
theorem d_XK_of_19 : decode prog_3_method_3_code 19 = .ok (.iload_n 1, 1) := by decide +kernel
theorem d_XK_of_20 : decode prog_3_method_3_code 20 = .ok (.iaload, 1) := by decide +kernel
theorem d_XK_of_21 : decode prog_3_method_3_code 21 = .ok (.iload_n 2, 1) := by decide +kernel
theorem d_XK_of_22 : decode prog_3_method_3_code 22 = .ok (.invokestatic 35, 3) := by decide +kernel
theorem d_XK_of_25 : decode prog_3_method_3_code 25 = .ok (.ifCond .eq 5, 3) := by decide +kernel
theorem d_XK_of_28 : decode prog_3_method_3_code 28 = .ok (.iconst 0, 1) := by decide +kernel
theorem d_XK_of_29 : decode prog_3_method_3_code 29 = .ok (.ireturn, 1) := by decide +kernel
theorem d_XK_of_30 : decode prog_3_method_3_code 30 = .ok (.aload_n 0, 1) := by decide +kernel
theorem d_XK_of_31 : decode prog_3_method_3_code 31 = .ok (.getfield 21, 3) := by decide +kernel
theorem d_XK_of_34 : decode prog_3_method_3_code 34 = .ok (.iload_n 1, 1) := by decide +kernel
theorem d_XK_of_35 : decode prog_3_method_3_code 35 = .ok (.iaload, 1) := by decide +kernel
theorem d_XK_of_36 : decode prog_3_method_3_code 36 = .ok (.iload_n 2, 1) := by decide +kernel
theorem d_XK_of_37 : decode prog_3_method_3_code 37 = .ok (.invokestatic 35, 3) := by decide +kernel
theorem d_XK_of_40 : decode prog_3_method_3_code 40 = .ok (.ifCond .eq 7, 3) := by decide +kernel
theorem d_XK_of_43 : decode prog_3_method_3_code 43 = .ok (.iconst 2, 1) := by decide +kernel
theorem d_XK_of_44 : decode prog_3_method_3_code 44 = .ok (.goto 4, 3) := by decide +kernel
theorem d_XK_of_47 : decode prog_3_method_3_code 47 = .ok (.iconst 3, 1) := by decide +kernel
theorem d_XK_of_48 : decode prog_3_method_3_code 48 = .ok (.ireturn, 1) := by decide +kernel
theorem d_X_ask_0 : decode prog_1_method_8_code 0 = .ok (.aload_n 0, 1) := by decide +kernel
theorem d_X_ask_1 : decode prog_1_method_8_code 1 = .ok (.iload_n 1, 1) := by decide +kernel
theorem d_X_ask_2 : decode prog_1_method_8_code 2 = .ok (.invokevirtual 63, 3) := by decide +kernel
theorem d_X_ask_5 : decode prog_1_method_8_code 5 = .ok (.ifCond .eq 11, 3) := by decide +kernel
theorem d_X_ask_8 : decode prog_1_method_8_code 8 = .ok (.aload_n 0, 1) := by decide +kernel
theorem d_X_ask_9 : decode prog_1_method_8_code 9 = .ok (.iload_n 2, 1) := by decide +kernel
theorem d_X_ask_10 : decode prog_1_method_8_code 10 = .ok (.invokevirtual 67, 3) := by decide +kernel
theorem d_X_ask_13 : decode prog_1_method_8_code 13 = .ok (.ifCond .ne 5, 3) := by decide +kernel
theorem d_X_ask_16 : decode prog_1_method_8_code 16 = .ok (.iconst (-1), 1) := by decide +kernel
theorem d_X_ask_17 : decode prog_1_method_8_code 17 = .ok (.ireturn, 1) := by decide +kernel
theorem d_X_ask_18 : decode prog_1_method_8_code 18 = .ok (.aload_n 0, 1) := by decide +kernel
theorem d_X_ask_19 : decode prog_1_method_8_code 19 = .ok (.getfield 21, 3) := by decide +kernel
theorem d_X_ask_22 : decode prog_1_method_8_code 22 = .ok (.iload_n 1, 1) := by decide +kernel
theorem d_X_ask_23 : decode prog_1_method_8_code 23 = .ok (.invokestatic 74, 3) := by decide +kernel
theorem d_X_ask_26 : decode prog_1_method_8_code 26 = .ok (.iload_n 2, 1) := by decide +kernel
theorem d_X_ask_27 : decode prog_1_method_8_code 27 = .ok (.invokestatic 78, 3) := by decide +kernel
theorem d_X_ask_30 : decode prog_1_method_8_code 30 = .ok (.invokevirtual 118, 3) := by decide +kernel
theorem d_X_ask_33 : decode prog_1_method_8_code 33 = .ok (.ireturn, 1) := by decide +kernel
theorem d_XR_decide_0 : decode prog_5_method_5_code 0 = .ok (.iload_n 2, 1) := by decide +kernel
theorem d_XR_decide_1 : decode prog_5_method_5_code 1 = .ok (.invokestatic 38, 3) := by decide +kernel
theorem d_XR_decide_4 : decode prog_5_method_5_code 4 = .ok (.bipush 20, 2) := by decide +kernel
theorem d_XR_decide_6 : decode prog_5_method_5_code 6 = .ok (.invokestatic 38, 3) := by decide +kernel
theorem d_XR_decide_9 : decode prog_5_method_5_code 9 = .ok (.ior, 1) := by decide +kernel
theorem d_XR_decide_10 : decode prog_5_method_5_code 10 = .ok (.istore_n 3, 1) := by decide +kernel
theorem d_XR_decide_11 : decode prog_5_method_5_code 11 = .ok (.aload_n 0, 1) := by decide +kernel
theorem d_XR_decide_12 : decode prog_5_method_5_code 12 = .ok (.iload_n 1, 1) := by decide +kernel
theorem d_XR_decide_13 : decode prog_5_method_5_code 13 = .ok (.putfield 22, 3) := by decide +kernel
theorem d_XR_decide_16 : decode prog_5_method_5_code 16 = .ok (.aload_n 0, 1) := by decide +kernel
theorem d_XR_decide_17 : decode prog_5_method_5_code 17 = .ok (.iconst 0, 1) := by decide +kernel
theorem d_XR_decide_18 : decode prog_5_method_5_code 18 = .ok (.putfield 19, 3) := by decide +kernel
theorem d_XR_decide_21 : decode prog_5_method_5_code 21 = .ok (.iconst 0, 1) := by decide +kernel
theorem d_XR_decide_22 : decode prog_5_method_5_code 22 = .ok (.istore 4, 2) := by decide +kernel
theorem d_XR_decide_24 : decode prog_5_method_5_code 24 = .ok (.iload 4, 2) := by decide +kernel
theorem d_XR_decide_26 : decode prog_5_method_5_code 26 = .ok (.bipush 20, 2) := by decide +kernel
theorem d_XR_decide_28 : decode prog_5_method_5_code 28 = .ok (.if_icmp .gt 97, 3) := by decide +kernel
theorem d_XR_decide_31 : decode prog_5_method_5_code 31 = .ok (.aload_n 0, 1) := by decide +kernel
theorem d_XR_decide_32 : decode prog_5_method_5_code 32 = .ok (.getfield 22, 3) := by decide +kernel
theorem d_XR_decide_35 : decode prog_5_method_5_code 35 = .ok (.iload_n 3, 1) := by decide +kernel
theorem d_XR_decide_36 : decode prog_5_method_5_code 36 = .ok (.iand, 1) := by decide +kernel
theorem d_XR_decide_37 : decode prog_5_method_5_code 37 = .ok (.ifCond .eq 5, 3) := by decide +kernel
theorem d_XR_decide_40 : decode prog_5_method_5_code 40 = .ok (.iconst 1, 1) := by decide +kernel
theorem d_XR_decide_41 : decode prog_5_method_5_code 41 = .ok (.ireturn, 1) := by decide +kernel
theorem d_XR_decide_42 : decode prog_5_method_5_code 42 = .ok (.aload_n 0, 1) := by decide +kernel
theorem d_XR_decide_43 : decode prog_5_method_5_code 43 = .ok (.getfield 25, 3) := by decide +kernel
theorem d_XR_decide_46 : decode prog_5_method_5_code 46 = .ok (.aload_n 0, 1) := by decide +kernel
theorem d_XR_decide_47 : decode prog_5_method_5_code 47 = .ok (.getfield 22, 3) := by decide +kernel
theorem d_XR_decide_50 : decode prog_5_method_5_code 50 = .ok (.invokevirtual 42, 3) := by decide +kernel
theorem d_XR_decide_53 : decode prog_5_method_5_code 53 = .ok (.istore 5, 2) := by decide +kernel
theorem d_XR_decide_55 : decode prog_5_method_5_code 55 = .ok (.iload 5, 2) := by decide +kernel
theorem d_XR_decide_57 : decode prog_5_method_5_code 57 = .ok (.bipush (-6), 2) := by decide +kernel
theorem d_XR_decide_59 : decode prog_5_method_5_code 59 = .ok (.if_icmp .ne 5, 3) := by decide +kernel
theorem d_XR_decide_62 : decode prog_5_method_5_code 62 = .ok (.iconst 0, 1) := by decide +kernel
theorem d_XR_decide_63 : decode prog_5_method_5_code 63 = .ok (.ireturn, 1) := by decide +kernel
theorem d_XR_decide_64 : decode prog_5_method_5_code 64 = .ok (.aload_n 0, 1) := by decide +kernel
theorem d_XR_decide_65 : decode prog_5_method_5_code 65 = .ok (.getfield 19, 3) := by decide +kernel
theorem d_XR_decide_68 : decode prog_5_method_5_code 68 = .ok (.aload_n 0, 1) := by decide +kernel
theorem d_XR_decide_69 : decode prog_5_method_5_code 69 = .ok (.getfield 15, 3) := by decide +kernel
theorem d_XR_decide_72 : decode prog_5_method_5_code 72 = .ok (.if_icmp .lt 5, 3) := by decide +kernel
theorem d_XR_decide_75 : decode prog_5_method_5_code 75 = .ok (.iconst 2, 1) := by decide +kernel
theorem d_XR_decide_76 : decode prog_5_method_5_code 76 = .ok (.ireturn, 1) := by decide +kernel
theorem d_XR_decide_77 : decode prog_5_method_5_code 77 = .ok (.aload_n 0, 1) := by decide +kernel
theorem d_XR_decide_78 : decode prog_5_method_5_code 78 = .ok (.getfield 9, 3) := by decide +kernel
theorem d_XR_decide_81 : decode prog_5_method_5_code 81 = .ok (.aload_n 0, 1) := by decide +kernel
theorem d_XR_decide_82 : decode prog_5_method_5_code 82 = .ok (.getfield 19, 3) := by decide +kernel
theorem d_XR_decide_85 : decode prog_5_method_5_code 85 = .ok (.iload 5, 2) := by decide +kernel
theorem d_XR_decide_87 : decode prog_5_method_5_code 87 = .ok (.iastore, 1) := by decide +kernel
theorem d_XR_decide_88 : decode prog_5_method_5_code 88 = .ok (.aload_n 0, 1) := by decide +kernel
theorem d_XR_decide_89 : decode prog_5_method_5_code 89 = .ok (.dup, 1) := by decide +kernel
theorem d_XR_decide_90 : decode prog_5_method_5_code 90 = .ok (.getfield 19, 3) := by decide +kernel
theorem d_XR_decide_93 : decode prog_5_method_5_code 93 = .ok (.iconst 1, 1) := by decide +kernel
theorem d_XR_decide_94 : decode prog_5_method_5_code 94 = .ok (.iadd, 1) := by decide +kernel
theorem d_XR_decide_95 : decode prog_5_method_5_code 95 = .ok (.putfield 19, 3) := by decide +kernel
theorem d_XR_decide_98 : decode prog_5_method_5_code 98 = .ok (.aload_n 0, 1) := by decide +kernel
theorem d_XR_decide_99 : decode prog_5_method_5_code 99 = .ok (.dup, 1) := by decide +kernel
theorem d_XR_decide_100 : decode prog_5_method_5_code 100 = .ok (.getfield 22, 3) := by decide +kernel
theorem d_XR_decide_103 : decode prog_5_method_5_code 103 = .ok (.aload_n 0, 1) := by decide +kernel
theorem d_XR_decide_104 : decode prog_5_method_5_code 104 = .ok (.getfield 25, 3) := by decide +kernel
theorem d_XR_decide_107 : decode prog_5_method_5_code 107 = .ok (.iload 5, 2) := by decide +kernel
theorem d_XR_decide_109 : decode prog_5_method_5_code 109 = .ok (.invokevirtual 47, 3) := by decide +kernel
theorem d_XR_decide_112 : decode prog_5_method_5_code 112 = .ok (.invokestatic 38, 3) := by decide +kernel
theorem d_XR_decide_115 : decode prog_5_method_5_code 115 = .ok (.ior, 1) := by decide +kernel
theorem d_XR_decide_116 : decode prog_5_method_5_code 116 = .ok (.putfield 22, 3) := by decide +kernel
theorem d_XR_decide_119 : decode prog_5_method_5_code 119 = .ok (.iinc 4 1, 3) := by decide +kernel
theorem d_XR_decide_122 : decode prog_5_method_5_code 122 = .ok (.goto (-98), 3) := by decide +kernel
theorem d_XR_decide_125 : decode prog_5_method_5_code 125 = .ok (.iconst 2, 1) := by decide +kernel
theorem d_XR_decide_126 : decode prog_5_method_5_code 126 = .ok (.ireturn, 1) := by decide +kernel
theorem d_XA_firstThatFires_0 : decode prog_2_method_9_code 0 = .ok (.iconst 0, 1) := by decide +kernel
theorem d_XA_firstThatFires_1 : decode prog_2_method_9_code 1 = .ok (.istore_n 2, 1) := by decide +kernel
theorem d_XA_firstThatFires_2 : decode prog_2_method_9_code 2 = .ok (.iload_n 2, 1) := by decide +kernel
theorem d_XA_firstThatFires_3 : decode prog_2_method_9_code 3 = .ok (.aload_n 0, 1) := by decide +kernel
theorem d_XA_firstThatFires_4 : decode prog_2_method_9_code 4 = .ok (.getfield 18, 3) := by decide +kernel
theorem d_XA_firstThatFires_7 : decode prog_2_method_9_code 7 = .ok (.if_icmp .ge 43, 3) := by decide +kernel
theorem d_XA_firstThatFires_10 : decode prog_2_method_9_code 10 = .ok (.aload_n 0, 1) := by decide +kernel
theorem d_XA_firstThatFires_11 : decode prog_2_method_9_code 11 = .ok (.getfield 9, 3) := by decide +kernel
theorem d_XA_firstThatFires_14 : decode prog_2_method_9_code 14 = .ok (.iload_n 2, 1) := by decide +kernel
theorem d_XA_firstThatFires_15 : decode prog_2_method_9_code 15 = .ok (.iaload, 1) := by decide +kernel
theorem d_XA_firstThatFires_16 : decode prog_2_method_9_code 16 = .ok (.istore_n 3, 1) := by decide +kernel
theorem d_XA_firstThatFires_17 : decode prog_2_method_9_code 17 = .ok (.iload_n 3, 1) := by decide +kernel
theorem d_XA_firstThatFires_18 : decode prog_2_method_9_code 18 = .ok (.ifCond .eq 26, 3) := by decide +kernel
theorem d_XA_firstThatFires_21 : decode prog_2_method_9_code 21 = .ok (.iload_n 3, 1) := by decide +kernel
theorem d_XA_firstThatFires_22 : decode prog_2_method_9_code 22 = .ok (.iload_n 1, 1) := by decide +kernel
theorem d_XA_firstThatFires_23 : decode prog_2_method_9_code 23 = .ok (.iconst (-1), 1) := by decide +kernel
theorem d_XA_firstThatFires_24 : decode prog_2_method_9_code 24 = .ok (.ixor, 1) := by decide +kernel
theorem d_XA_firstThatFires_25 : decode prog_2_method_9_code 25 = .ok (.iand, 1) := by decide +kernel
theorem d_XA_firstThatFires_26 : decode prog_2_method_9_code 26 = .ok (.ifCond .ne 18, 3) := by decide +kernel
theorem d_XA_firstThatFires_29 : decode prog_2_method_9_code 29 = .ok (.iload_n 1, 1) := by decide +kernel
theorem d_XA_firstThatFires_30 : decode prog_2_method_9_code 30 = .ok (.aload_n 0, 1) := by decide +kernel
theorem d_XA_firstThatFires_31 : decode prog_2_method_9_code 31 = .ok (.getfield 15, 3) := by decide +kernel
theorem d_XA_firstThatFires_34 : decode prog_2_method_9_code 34 = .ok (.iload_n 2, 1) := by decide +kernel
theorem d_XA_firstThatFires_35 : decode prog_2_method_9_code 35 = .ok (.iaload, 1) := by decide +kernel
theorem d_XA_firstThatFires_36 : decode prog_2_method_9_code 36 = .ok (.invokestatic 37, 3) := by decide +kernel
theorem d_XA_firstThatFires_39 : decode prog_2_method_9_code 39 = .ok (.ifCond .ne 5, 3) := by decide +kernel
theorem d_XA_firstThatFires_42 : decode prog_2_method_9_code 42 = .ok (.iload_n 2, 1) := by decide +kernel
theorem d_XA_firstThatFires_43 : decode prog_2_method_9_code 43 = .ok (.ireturn, 1) := by decide +kernel
theorem d_XA_firstThatFires_44 : decode prog_2_method_9_code 44 = .ok (.iinc 2 1, 3) := by decide +kernel
theorem d_XA_firstThatFires_47 : decode prog_2_method_9_code 47 = .ok (.goto (-45), 3) := by decide +kernel
theorem d_XA_firstThatFires_50 : decode prog_2_method_9_code 50 = .ok (.bipush (-6), 2) := by decide +kernel
theorem d_XA_firstThatFires_52 : decode prog_2_method_9_code 52 = .ok (.ireturn, 1) := by decide +kernel
theorem d_X_run_0 : decode prog_1_method_9_code 0 = .ok (.aload_n 0, 1) := by decide +kernel
theorem d_X_run_1 : decode prog_1_method_9_code 1 = .ok (.getfield 37, 3) := by decide +kernel
theorem d_X_run_4 : decode prog_1_method_9_code 4 = .ok (.aload_n 0, 1) := by decide +kernel
theorem d_X_run_5 : decode prog_1_method_9_code 5 = .ok (.getfield 45, 3) := by decide +kernel
theorem d_X_run_8 : decode prog_1_method_9_code 8 = .ok (.invokevirtual 121, 3) := by decide +kernel
theorem d_X_run_11 : decode prog_1_method_9_code 11 = .ok (.istore_n 1, 1) := by decide +kernel
theorem d_X_run_12 : decode prog_1_method_9_code 12 = .ok (.aload_n 0, 1) := by decide +kernel
theorem d_X_run_13 : decode prog_1_method_9_code 13 = .ok (.dup, 1) := by decide +kernel
theorem d_X_run_14 : decode prog_1_method_9_code 14 = .ok (.getfield 52, 3) := by decide +kernel
theorem d_X_run_17 : decode prog_1_method_9_code 17 = .ok (.iload_n 1, 1) := by decide +kernel
theorem d_X_run_18 : decode prog_1_method_9_code 18 = .ok (.iadd, 1) := by decide +kernel
theorem d_X_run_19 : decode prog_1_method_9_code 19 = .ok (.putfield 52, 3) := by decide +kernel
theorem d_X_run_22 : decode prog_1_method_9_code 22 = .ok (.aload_n 0, 1) := by decide +kernel
theorem d_X_run_23 : decode prog_1_method_9_code 23 = .ok (.iconst 1, 1) := by decide +kernel
theorem d_X_run_24 : decode prog_1_method_9_code 24 = .ok (.putfield 55, 3) := by decide +kernel
theorem d_X_run_27 : decode prog_1_method_9_code 27 = .ok (.iload_n 1, 1) := by decide +kernel
theorem d_X_run_28 : decode prog_1_method_9_code 28 = .ok (.ireturn, 1) := by decide +kernel
theorem d_XO_sort_0 : decode prog_4_method_5_code 0 = .ok (.aload_n 0, 1) := by decide +kernel
theorem d_XO_sort_1 : decode prog_4_method_5_code 1 = .ok (.iconst 0, 1) := by decide +kernel
theorem d_XO_sort_2 : decode prog_4_method_5_code 2 = .ok (.putfield 9, 3) := by decide +kernel
theorem d_XO_sort_5 : decode prog_4_method_5_code 5 = .ok (.aload_n 0, 1) := by decide +kernel
theorem d_XO_sort_6 : decode prog_4_method_5_code 6 = .ok (.iconst 0, 1) := by decide +kernel
theorem d_XO_sort_7 : decode prog_4_method_5_code 7 = .ok (.putfield 15, 3) := by decide +kernel
theorem d_XO_sort_10 : decode prog_4_method_5_code 10 = .ok (.aload_n 0, 1) := by decide +kernel
end
section
theorem d_XO_sort_11 : decode prog_4_method_5_code 11 = .ok (.iconst 0, 1) := by decide +kernel
theorem d_XO_sort_12 : decode prog_4_method_5_code 12 = .ok (.putfield 18, 3) := by decide +kernel
theorem d_XO_sort_15 : decode prog_4_method_5_code 15 = .ok (.iconst 0, 1) := by decide +kernel
theorem d_XO_sort_16 : decode prog_4_method_5_code 16 = .ok (.istore_n 2, 1) := by decide +kernel
theorem d_XO_sort_17 : decode prog_4_method_5_code 17 = .ok (.iload_n 2, 1) := by decide +kernel
theorem d_XO_sort_18 : decode prog_4_method_5_code 18 = .ok (.iload_n 1, 1) := by decide +kernel
theorem d_XO_sort_19 : decode prog_4_method_5_code 19 = .ok (.if_icmp .ge 65, 3) := by decide +kernel
theorem d_XO_sort_22 : decode prog_4_method_5_code 22 = .ok (.iload_n 2, 1) := by decide +kernel
theorem d_XO_sort_23 : decode prog_4_method_5_code 23 = .ok (.bipush 20, 2) := by decide +kernel
theorem d_XO_sort_25 : decode prog_4_method_5_code 25 = .ok (.if_icmp .ge 59, 3) := by decide +kernel
theorem d_XO_sort_28 : decode prog_4_method_5_code 28 = .ok (.aload_n 0, 1) := by decide +kernel
theorem d_XO_sort_29 : decode prog_4_method_5_code 29 = .ok (.iload_n 2, 1) := by decide +kernel
theorem d_XO_sort_30 : decode prog_4_method_5_code 30 = .ok (.bipush 20, 2) := by decide +kernel
theorem d_XO_sort_32 : decode prog_4_method_5_code 32 = .ok (.invokevirtual 33, 3) := by decide +kernel
theorem d_XO_sort_35 : decode prog_4_method_5_code 35 = .ok (.iconst 1, 1) := by decide +kernel
theorem d_XO_sort_36 : decode prog_4_method_5_code 36 = .ok (.if_icmp .ne 19, 3) := by decide +kernel
theorem d_XO_sort_39 : decode prog_4_method_5_code 39 = .ok (.aload_n 0, 1) := by decide +kernel
theorem d_XO_sort_40 : decode prog_4_method_5_code 40 = .ok (.dup, 1) := by decide +kernel
theorem d_XO_sort_41 : decode prog_4_method_5_code 41 = .ok (.getfield 15, 3) := by decide +kernel
theorem d_XO_sort_44 : decode prog_4_method_5_code 44 = .ok (.iload_n 2, 1) := by decide +kernel
theorem d_XO_sort_45 : decode prog_4_method_5_code 45 = .ok (.invokestatic 37, 3) := by decide +kernel
theorem d_XO_sort_48 : decode prog_4_method_5_code 48 = .ok (.ior, 1) := by decide +kernel
theorem d_XO_sort_49 : decode prog_4_method_5_code 49 = .ok (.putfield 15, 3) := by decide +kernel
theorem d_XO_sort_52 : decode prog_4_method_5_code 52 = .ok (.goto 26, 3) := by decide +kernel
theorem d_XO_sort_55 : decode prog_4_method_5_code 55 = .ok (.aload_n 0, 1) := by decide +kernel
theorem d_XO_sort_56 : decode prog_4_method_5_code 56 = .ok (.iload_n 2, 1) := by decide +kernel
theorem d_XO_sort_57 : decode prog_4_method_5_code 57 = .ok (.invokevirtual 41, 3) := by decide +kernel
theorem d_XO_sort_60 : decode prog_4_method_5_code 60 = .ok (.aload_n 0, 1) := by decide +kernel
theorem d_XO_sort_61 : decode prog_4_method_5_code 61 = .ok (.iload_n 2, 1) := by decide +kernel
theorem d_XO_sort_62 : decode prog_4_method_5_code 62 = .ok (.invokevirtual 45, 3) := by decide +kernel
theorem d_XO_sort_65 : decode prog_4_method_5_code 65 = .ok (.aload_n 0, 1) := by decide +kernel
theorem d_XO_sort_66 : decode prog_4_method_5_code 66 = .ok (.dup, 1) := by decide +kernel
theorem d_XO_sort_67 : decode prog_4_method_5_code 67 = .ok (.getfield 9, 3) := by decide +kernel
theorem d_XO_sort_70 : decode prog_4_method_5_code 70 = .ok (.iload_n 2, 1) := by decide +kernel
theorem d_XO_sort_71 : decode prog_4_method_5_code 71 = .ok (.invokestatic 37, 3) := by decide +kernel
theorem d_XO_sort_74 : decode prog_4_method_5_code 74 = .ok (.ior, 1) := by decide +kernel
theorem d_XO_sort_75 : decode prog_4_method_5_code 75 = .ok (.putfield 9, 3) := by decide +kernel
theorem d_XO_sort_78 : decode prog_4_method_5_code 78 = .ok (.iinc 2 1, 3) := by decide +kernel
theorem d_XO_sort_81 : decode prog_4_method_5_code 81 = .ok (.goto (-64), 3) := by decide +kernel
theorem d_XO_sort_84 : decode prog_4_method_5_code 84 = .ok (.aload_n 0, 1) := by decide +kernel
theorem d_XO_sort_85 : decode prog_4_method_5_code 85 = .ok (.getfield 18, 3) := by decide +kernel
theorem d_XO_sort_88 : decode prog_4_method_5_code 88 = .ok (.ireturn, 1) := by decide +kernel
theorem d_XO_answer_0 : decode prog_4_method_6_code 0 = .ok (.aload_n 0, 1) := by decide +kernel
theorem d_XO_answer_1 : decode prog_4_method_6_code 1 = .ok (.getfield 21, 3) := by decide +kernel
theorem d_XO_answer_4 : decode prog_4_method_6_code 4 = .ok (.iload_n 1, 1) := by decide +kernel
theorem d_XO_answer_5 : decode prog_4_method_6_code 5 = .ok (.iload_n 2, 1) := by decide +kernel
theorem d_XO_answer_6 : decode prog_4_method_6_code 6 = .ok (.invokevirtual 48, 3) := by decide +kernel
theorem d_XO_answer_9 : decode prog_4_method_6_code 9 = .ok (.iconst 3, 1) := by decide +kernel
theorem d_XO_answer_10 : decode prog_4_method_6_code 10 = .ok (.if_icmp .ne 34, 3) := by decide +kernel
theorem d_XO_answer_13 : decode prog_4_method_6_code 13 = .ok (.aload_n 0, 1) := by decide +kernel
theorem d_XO_answer_14 : decode prog_4_method_6_code 14 = .ok (.dup, 1) := by decide +kernel
theorem d_XO_answer_15 : decode prog_4_method_6_code 15 = .ok (.getfield 18, 3) := by decide +kernel
theorem d_XO_answer_18 : decode prog_4_method_6_code 18 = .ok (.iconst 1, 1) := by decide +kernel
theorem d_XO_answer_19 : decode prog_4_method_6_code 19 = .ok (.iadd, 1) := by decide +kernel
theorem d_XO_answer_20 : decode prog_4_method_6_code 20 = .ok (.putfield 18, 3) := by decide +kernel
theorem d_XO_answer_23 : decode prog_4_method_6_code 23 = .ok (.aload_n 0, 1) := by decide +kernel
theorem d_XO_answer_24 : decode prog_4_method_6_code 24 = .ok (.getfield 21, 3) := by decide +kernel
theorem d_XO_answer_27 : decode prog_4_method_6_code 27 = .ok (.iload_n 1, 1) := by decide +kernel
theorem d_XO_answer_28 : decode prog_4_method_6_code 28 = .ok (.iload_n 2, 1) := by decide +kernel
theorem d_XO_answer_29 : decode prog_4_method_6_code 29 = .ok (.aload_n 0, 1) := by decide +kernel
theorem d_XO_answer_30 : decode prog_4_method_6_code 30 = .ok (.getfield 25, 3) := by decide +kernel
theorem d_XO_answer_33 : decode prog_4_method_6_code 33 = .ok (.iload_n 1, 1) := by decide +kernel
theorem d_XO_answer_34 : decode prog_4_method_6_code 34 = .ok (.invokestatic 37, 3) := by decide +kernel
theorem d_XO_answer_37 : decode prog_4_method_6_code 37 = .ok (.iload_n 2, 1) := by decide +kernel
theorem d_XO_answer_38 : decode prog_4_method_6_code 38 = .ok (.invokevirtual 53, 3) := by decide +kernel
theorem d_XO_answer_41 : decode prog_4_method_6_code 41 = .ok (.invokevirtual 58, 3) := by decide +kernel
theorem d_XO_answer_44 : decode prog_4_method_6_code 44 = .ok (.aload_n 0, 1) := by decide +kernel
theorem d_XO_answer_45 : decode prog_4_method_6_code 45 = .ok (.getfield 21, 3) := by decide +kernel
theorem d_XO_answer_48 : decode prog_4_method_6_code 48 = .ok (.iload_n 1, 1) := by decide +kernel
theorem d_XO_answer_49 : decode prog_4_method_6_code 49 = .ok (.iload_n 2, 1) := by decide +kernel
theorem d_XO_answer_50 : decode prog_4_method_6_code 50 = .ok (.invokevirtual 48, 3) := by decide +kernel
theorem d_XO_answer_53 : decode prog_4_method_6_code 53 = .ok (.ireturn, 1) := by decide +kernel
theorem d_XK_learn_0 : decode prog_3_method_10_code 0 = .ok (.iload_n 3, 1) := by decide +kernel
theorem d_XK_learn_1 : decode prog_3_method_10_code 1 = .ok (.iconst 1, 1) := by decide +kernel
theorem d_XK_learn_2 : decode prog_3_method_10_code 2 = .ok (.if_icmp .ne 12, 3) := by decide +kernel
theorem d_XK_learn_5 : decode prog_3_method_10_code 5 = .ok (.aload_n 0, 1) := by decide +kernel
theorem d_XK_learn_6 : decode prog_3_method_10_code 6 = .ok (.iload_n 1, 1) := by decide +kernel
theorem d_XK_learn_7 : decode prog_3_method_10_code 7 = .ok (.iload_n 2, 1) := by decide +kernel
theorem d_XK_learn_8 : decode prog_3_method_10_code 8 = .ok (.invokevirtual 28, 3) := by decide +kernel
theorem d_XK_learn_11 : decode prog_3_method_10_code 11 = .ok (.goto 36, 3) := by decide +kernel
theorem d_XK_learn_14 : decode prog_3_method_10_code 14 = .ok (.iload_n 3, 1) := by decide +kernel
theorem d_XK_learn_15 : decode prog_3_method_10_code 15 = .ok (.ifCond .ne 19, 3) := by decide +kernel
theorem d_XK_learn_18 : decode prog_3_method_10_code 18 = .ok (.aload_n 0, 1) := by decide +kernel
theorem d_XK_learn_19 : decode prog_3_method_10_code 19 = .ok (.getfield 18, 3) := by decide +kernel
theorem d_XK_learn_22 : decode prog_3_method_10_code 22 = .ok (.iload_n 1, 1) := by decide +kernel
theorem d_XK_learn_23 : decode prog_3_method_10_code 23 = .ok (.dup2, 1) := by decide +kernel
theorem d_XK_learn_24 : decode prog_3_method_10_code 24 = .ok (.iaload, 1) := by decide +kernel
theorem d_XK_learn_25 : decode prog_3_method_10_code 25 = .ok (.iload_n 2, 1) := by decide +kernel
theorem d_XK_learn_26 : decode prog_3_method_10_code 26 = .ok (.invokestatic 24, 3) := by decide +kernel
theorem d_XK_learn_29 : decode prog_3_method_10_code 29 = .ok (.ior, 1) := by decide +kernel
theorem d_XK_learn_30 : decode prog_3_method_10_code 30 = .ok (.iastore, 1) := by decide +kernel
theorem d_XK_learn_31 : decode prog_3_method_10_code 31 = .ok (.goto 16, 3) := by decide +kernel
theorem d_XK_learn_34 : decode prog_3_method_10_code 34 = .ok (.aload_n 0, 1) := by decide +kernel
theorem d_XK_learn_35 : decode prog_3_method_10_code 35 = .ok (.getfield 21, 3) := by decide +kernel
theorem d_XK_learn_38 : decode prog_3_method_10_code 38 = .ok (.iload_n 1, 1) := by decide +kernel
theorem d_XK_learn_39 : decode prog_3_method_10_code 39 = .ok (.dup2, 1) := by decide +kernel
theorem d_XK_learn_40 : decode prog_3_method_10_code 40 = .ok (.iaload, 1) := by decide +kernel
theorem d_XK_learn_41 : decode prog_3_method_10_code 41 = .ok (.iload_n 2, 1) := by decide +kernel
theorem d_XK_learn_42 : decode prog_3_method_10_code 42 = .ok (.invokestatic 24, 3) := by decide +kernel
theorem d_XK_learn_45 : decode prog_3_method_10_code 45 = .ok (.ior, 1) := by decide +kernel
theorem d_XK_learn_46 : decode prog_3_method_10_code 46 = .ok (.iastore, 1) := by decide +kernel
theorem d_XK_learn_47 : decode prog_3_method_10_code 47 = .ok (.aload_n 0, 1) := by decide +kernel
theorem d_XK_learn_48 : decode prog_3_method_10_code 48 = .ok (.invokevirtual 32, 3) := by decide +kernel
theorem d_XK_learn_51 : decode prog_3_method_10_code 51 = .ok (.return_, 1) := by decide +kernel
theorem d_XO_searchDown_0 : decode prog_4_method_7_code 0 = .ok (.aload_n 0, 1) := by decide +kernel
theorem d_XO_searchDown_1 : decode prog_4_method_7_code 1 = .ok (.getfield 9, 3) := by decide +kernel
theorem d_XO_searchDown_4 : decode prog_4_method_7_code 4 = .ok (.istore_n 2, 1) := by decide +kernel
theorem d_XO_searchDown_5 : decode prog_4_method_7_code 5 = .ok (.iconst 0, 1) := by decide +kernel
theorem d_XO_searchDown_6 : decode prog_4_method_7_code 6 = .ok (.istore_n 3, 1) := by decide +kernel
theorem d_XO_searchDown_7 : decode prog_4_method_7_code 7 = .ok (.iload_n 3, 1) := by decide +kernel
theorem d_XO_searchDown_8 : decode prog_4_method_7_code 8 = .ok (.bipush 20, 2) := by decide +kernel
theorem d_XO_searchDown_10 : decode prog_4_method_7_code 10 = .ok (.if_icmp .ge 43, 3) := by decide +kernel
theorem d_XO_searchDown_13 : decode prog_4_method_7_code 13 = .ok (.aload_n 0, 1) := by decide +kernel
theorem d_XO_searchDown_14 : decode prog_4_method_7_code 14 = .ok (.iload_n 1, 1) := by decide +kernel
theorem d_XO_searchDown_15 : decode prog_4_method_7_code 15 = .ok (.iload_n 2, 1) := by decide +kernel
theorem d_XO_searchDown_16 : decode prog_4_method_7_code 16 = .ok (.invokevirtual 62, 3) := by decide +kernel
theorem d_XO_searchDown_19 : decode prog_4_method_7_code 19 = .ok (.istore 4, 2) := by decide +kernel
theorem d_XO_searchDown_21 : decode prog_4_method_7_code 21 = .ok (.iload 4, 2) := by decide +kernel
theorem d_XO_searchDown_23 : decode prog_4_method_7_code 23 = .ok (.bipush (-6), 2) := by decide +kernel
theorem d_XO_searchDown_25 : decode prog_4_method_7_code 25 = .ok (.if_icmp .ne 4, 3) := by decide +kernel
theorem d_XO_searchDown_28 : decode prog_4_method_7_code 28 = .ok (.return_, 1) := by decide +kernel
theorem d_XO_searchDown_29 : decode prog_4_method_7_code 29 = .ok (.iload_n 2, 1) := by decide +kernel
theorem d_XO_searchDown_30 : decode prog_4_method_7_code 30 = .ok (.iload 4, 2) := by decide +kernel
theorem d_XO_searchDown_32 : decode prog_4_method_7_code 32 = .ok (.invokestatic 37, 3) := by decide +kernel
theorem d_XO_searchDown_35 : decode prog_4_method_7_code 35 = .ok (.iconst (-1), 1) := by decide +kernel
theorem d_XO_searchDown_36 : decode prog_4_method_7_code 36 = .ok (.ixor, 1) := by decide +kernel
theorem d_XO_searchDown_37 : decode prog_4_method_7_code 37 = .ok (.iand, 1) := by decide +kernel
theorem d_XO_searchDown_38 : decode prog_4_method_7_code 38 = .ok (.istore_n 2, 1) := by decide +kernel
theorem d_XO_searchDown_39 : decode prog_4_method_7_code 39 = .ok (.aload_n 0, 1) := by decide +kernel
theorem d_XO_searchDown_40 : decode prog_4_method_7_code 40 = .ok (.iload_n 1, 1) := by decide +kernel
theorem d_XO_searchDown_41 : decode prog_4_method_7_code 41 = .ok (.iload 4, 2) := by decide +kernel
theorem d_XO_searchDown_43 : decode prog_4_method_7_code 43 = .ok (.invokevirtual 33, 3) := by decide +kernel
theorem d_XO_searchDown_46 : decode prog_4_method_7_code 46 = .ok (.pop, 1) := by decide +kernel
theorem d_XO_searchDown_47 : decode prog_4_method_7_code 47 = .ok (.iinc 3 1, 3) := by decide +kernel
theorem d_XO_searchDown_50 : decode prog_4_method_7_code 50 = .ok (.goto (-43), 3) := by decide +kernel
theorem d_XO_searchDown_53 : decode prog_4_method_7_code 53 = .ok (.return_, 1) := by decide +kernel
theorem d_XO_nextDown_0 : decode prog_4_method_9_code 0 = .ok (.aload_n 0, 1) := by decide +kernel
theorem d_XO_nextDown_1 : decode prog_4_method_9_code 1 = .ok (.getfield 21, 3) := by decide +kernel
theorem d_XO_nextDown_4 : decode prog_4_method_9_code 4 = .ok (.iload_n 1, 1) := by decide +kernel
theorem d_XO_nextDown_5 : decode prog_4_method_9_code 5 = .ok (.invokevirtual 68, 3) := by decide +kernel
theorem d_XO_nextDown_8 : decode prog_4_method_9_code 8 = .ok (.istore_n 3, 1) := by decide +kernel
theorem d_XO_nextDown_9 : decode prog_4_method_9_code 9 = .ok (.iconst 0, 1) := by decide +kernel
theorem d_XO_nextDown_10 : decode prog_4_method_9_code 10 = .ok (.istore 4, 2) := by decide +kernel
theorem d_XO_nextDown_12 : decode prog_4_method_9_code 12 = .ok (.iload 4, 2) := by decide +kernel
theorem d_XO_nextDown_14 : decode prog_4_method_9_code 14 = .ok (.bipush 20, 2) := by decide +kernel
theorem d_XO_nextDown_16 : decode prog_4_method_9_code 16 = .ok (.if_icmp .ge 42, 3) := by decide +kernel
theorem d_XO_nextDown_19 : decode prog_4_method_9_code 19 = .ok (.iload_n 2, 1) := by decide +kernel
theorem d_XO_nextDown_20 : decode prog_4_method_9_code 20 = .ok (.iload 4, 2) := by decide +kernel
theorem d_XO_nextDown_22 : decode prog_4_method_9_code 22 = .ok (.invokestatic 29, 3) := by decide +kernel
theorem d_XO_nextDown_25 : decode prog_4_method_9_code 25 = .ok (.ifCond .eq 27, 3) := by decide +kernel
theorem d_XO_nextDown_28 : decode prog_4_method_9_code 28 = .ok (.aload_n 0, 1) := by decide +kernel
theorem d_XO_nextDown_29 : decode prog_4_method_9_code 29 = .ok (.getfield 21, 3) := by decide +kernel
theorem d_XO_nextDown_32 : decode prog_4_method_9_code 32 = .ok (.iload 4, 2) := by decide +kernel
theorem d_XO_nextDown_34 : decode prog_4_method_9_code 34 = .ok (.invokevirtual 71, 3) := by decide +kernel
theorem d_XO_nextDown_37 : decode prog_4_method_9_code 37 = .ok (.aload_n 0, 1) := by decide +kernel
theorem d_XO_nextDown_38 : decode prog_4_method_9_code 38 = .ok (.getfield 9, 3) := by decide +kernel
theorem d_XO_nextDown_41 : decode prog_4_method_9_code 41 = .ok (.iand, 1) := by decide +kernel
theorem d_XO_nextDown_42 : decode prog_4_method_9_code 42 = .ok (.iload_n 3, 1) := by decide +kernel
theorem d_XO_nextDown_43 : decode prog_4_method_9_code 43 = .ok (.iconst (-1), 1) := by decide +kernel
theorem d_XO_nextDown_44 : decode prog_4_method_9_code 44 = .ok (.ixor, 1) := by decide +kernel
theorem d_XO_nextDown_45 : decode prog_4_method_9_code 45 = .ok (.iand, 1) := by decide +kernel
theorem d_XO_nextDown_46 : decode prog_4_method_9_code 46 = .ok (.ifCond .ne 6, 3) := by decide +kernel
theorem d_XO_nextDown_49 : decode prog_4_method_9_code 49 = .ok (.iload 4, 2) := by decide +kernel
theorem d_XO_nextDown_51 : decode prog_4_method_9_code 51 = .ok (.ireturn, 1) := by decide +kernel
theorem d_XO_nextDown_52 : decode prog_4_method_9_code 52 = .ok (.iinc 4 1, 3) := by decide +kernel
theorem d_XO_nextDown_55 : decode prog_4_method_9_code 55 = .ok (.goto (-43), 3) := by decide +kernel
theorem d_XO_nextDown_58 : decode prog_4_method_9_code 58 = .ok (.bipush (-6), 2) := by decide +kernel
theorem d_XO_nextDown_60 : decode prog_4_method_9_code 60 = .ok (.ireturn, 1) := by decide +kernel
theorem d_XK_allAbove_0 : decode prog_3_method_4_code 0 = .ok (.aload_n 0, 1) := by decide +kernel
theorem d_XK_allAbove_1 : decode prog_3_method_4_code 1 = .ok (.getfield 9, 3) := by decide +kernel
theorem d_XK_allAbove_4 : decode prog_3_method_4_code 4 = .ok (.iload_n 1, 1) := by decide +kernel
theorem d_XK_allAbove_5 : decode prog_3_method_4_code 5 = .ok (.iaload, 1) := by decide +kernel
theorem d_XK_allAbove_6 : decode prog_3_method_4_code 6 = .ok (.ireturn, 1) := by decide +kernel
theorem d_XK_strictlyAbove_0 : decode prog_3_method_6_code 0 = .ok (.aload_n 0, 1) := by decide +kernel
theorem d_XK_strictlyAbove_1 : decode prog_3_method_6_code 1 = .ok (.getfield 9, 3) := by decide +kernel
theorem d_XK_strictlyAbove_4 : decode prog_3_method_6_code 4 = .ok (.iload_n 1, 1) := by decide +kernel
theorem d_XK_strictlyAbove_5 : decode prog_3_method_6_code 5 = .ok (.iaload, 1) := by decide +kernel
theorem d_XK_strictlyAbove_6 : decode prog_3_method_6_code 6 = .ok (.aload_n 0, 1) := by decide +kernel
theorem d_XK_strictlyAbove_7 : decode prog_3_method_6_code 7 = .ok (.getfield 15, 3) := by decide +kernel
theorem d_XK_strictlyAbove_10 : decode prog_3_method_6_code 10 = .ok (.iload_n 1, 1) := by decide +kernel
theorem d_XK_strictlyAbove_11 : decode prog_3_method_6_code 11 = .ok (.iaload, 1) := by decide +kernel
theorem d_XK_strictlyAbove_12 : decode prog_3_method_6_code 12 = .ok (.iconst (-1), 1) := by decide +kernel
theorem d_XK_strictlyAbove_13 : decode prog_3_method_6_code 13 = .ok (.ixor, 1) := by decide +kernel
theorem d_XK_strictlyAbove_14 : decode prog_3_method_6_code 14 = .ok (.iand, 1) := by decide +kernel
theorem d_XK_strictlyAbove_15 : decode prog_3_method_6_code 15 = .ok (.ireturn, 1) := by decide +kernel
theorem d_XO_searchUp_0 : decode prog_4_method_8_code 0 = .ok (.aload_n 0, 1) := by decide +kernel
theorem d_XO_searchUp_1 : decode prog_4_method_8_code 1 = .ok (.getfield 9, 3) := by decide +kernel
theorem d_XO_searchUp_4 : decode prog_4_method_8_code 4 = .ok (.istore_n 2, 1) := by decide +kernel
theorem d_XO_searchUp_5 : decode prog_4_method_8_code 5 = .ok (.iconst 0, 1) := by decide +kernel
theorem d_XO_searchUp_6 : decode prog_4_method_8_code 6 = .ok (.istore_n 3, 1) := by decide +kernel
theorem d_XO_searchUp_7 : decode prog_4_method_8_code 7 = .ok (.iload_n 3, 1) := by decide +kernel
theorem d_XO_searchUp_8 : decode prog_4_method_8_code 8 = .ok (.bipush 20, 2) := by decide +kernel
theorem d_XO_searchUp_10 : decode prog_4_method_8_code 10 = .ok (.if_icmp .ge 43, 3) := by decide +kernel
theorem d_XO_searchUp_13 : decode prog_4_method_8_code 13 = .ok (.aload_n 0, 1) := by decide +kernel
theorem d_XO_searchUp_14 : decode prog_4_method_8_code 14 = .ok (.iload_n 1, 1) := by decide +kernel
theorem d_XO_searchUp_15 : decode prog_4_method_8_code 15 = .ok (.iload_n 2, 1) := by decide +kernel
theorem d_XO_searchUp_16 : decode prog_4_method_8_code 16 = .ok (.invokevirtual 65, 3) := by decide +kernel
theorem d_XO_searchUp_19 : decode prog_4_method_8_code 19 = .ok (.istore 4, 2) := by decide +kernel
theorem d_XO_searchUp_21 : decode prog_4_method_8_code 21 = .ok (.iload 4, 2) := by decide +kernel
theorem d_XO_searchUp_23 : decode prog_4_method_8_code 23 = .ok (.bipush (-6), 2) := by decide +kernel
theorem d_XO_searchUp_25 : decode prog_4_method_8_code 25 = .ok (.if_icmp .ne 4, 3) := by decide +kernel
theorem d_XO_searchUp_28 : decode prog_4_method_8_code 28 = .ok (.return_, 1) := by decide +kernel
theorem d_XO_searchUp_29 : decode prog_4_method_8_code 29 = .ok (.iload_n 2, 1) := by decide +kernel
theorem d_XO_searchUp_30 : decode prog_4_method_8_code 30 = .ok (.iload 4, 2) := by decide +kernel
theorem d_XO_searchUp_32 : decode prog_4_method_8_code 32 = .ok (.invokestatic 37, 3) := by decide +kernel
theorem d_XO_searchUp_35 : decode prog_4_method_8_code 35 = .ok (.iconst (-1), 1) := by decide +kernel
theorem d_XO_searchUp_36 : decode prog_4_method_8_code 36 = .ok (.ixor, 1) := by decide +kernel
theorem d_XO_searchUp_37 : decode prog_4_method_8_code 37 = .ok (.iand, 1) := by decide +kernel
theorem d_XO_searchUp_38 : decode prog_4_method_8_code 38 = .ok (.istore_n 2, 1) := by decide +kernel
theorem d_XO_searchUp_39 : decode prog_4_method_8_code 39 = .ok (.aload_n 0, 1) := by decide +kernel
theorem d_XO_searchUp_40 : decode prog_4_method_8_code 40 = .ok (.iload 4, 2) := by decide +kernel
theorem d_XO_searchUp_42 : decode prog_4_method_8_code 42 = .ok (.iload_n 1, 1) := by decide +kernel
theorem d_XO_searchUp_43 : decode prog_4_method_8_code 43 = .ok (.invokevirtual 33, 3) := by decide +kernel
theorem d_XO_searchUp_46 : decode prog_4_method_8_code 46 = .ok (.pop, 1) := by decide +kernel
theorem d_XO_searchUp_47 : decode prog_4_method_8_code 47 = .ok (.iinc 3 1, 3) := by decide +kernel
theorem d_XO_searchUp_50 : decode prog_4_method_8_code 50 = .ok (.goto (-43), 3) := by decide +kernel
theorem d_XO_searchUp_53 : decode prog_4_method_8_code 53 = .ok (.return_, 1) := by decide +kernel
theorem d_XO_nextUp_0 : decode prog_4_method_10_code 0 = .ok (.aload_n 0, 1) := by decide +kernel
theorem d_XO_nextUp_1 : decode prog_4_method_10_code 1 = .ok (.getfield 21, 3) := by decide +kernel
theorem d_XO_nextUp_4 : decode prog_4_method_10_code 4 = .ok (.iload_n 1, 1) := by decide +kernel
theorem d_XO_nextUp_5 : decode prog_4_method_10_code 5 = .ok (.invokevirtual 68, 3) := by decide +kernel
theorem d_XO_nextUp_8 : decode prog_4_method_10_code 8 = .ok (.aload_n 0, 1) := by decide +kernel
theorem d_XO_nextUp_9 : decode prog_4_method_10_code 9 = .ok (.getfield 9, 3) := by decide +kernel
theorem d_XO_nextUp_12 : decode prog_4_method_10_code 12 = .ok (.iand, 1) := by decide +kernel
theorem d_XO_nextUp_13 : decode prog_4_method_10_code 13 = .ok (.istore_n 3, 1) := by decide +kernel
theorem d_XO_nextUp_14 : decode prog_4_method_10_code 14 = .ok (.aload_n 0, 1) := by decide +kernel
theorem d_XO_nextUp_15 : decode prog_4_method_10_code 15 = .ok (.getfield 21, 3) := by decide +kernel
theorem d_XO_nextUp_18 : decode prog_4_method_10_code 18 = .ok (.iload_n 1, 1) := by decide +kernel
theorem d_XO_nextUp_19 : decode prog_4_method_10_code 19 = .ok (.invokevirtual 74, 3) := by decide +kernel
theorem d_XO_nextUp_22 : decode prog_4_method_10_code 22 = .ok (.istore 4, 2) := by decide +kernel
theorem d_XO_nextUp_24 : decode prog_4_method_10_code 24 = .ok (.iconst 0, 1) := by decide +kernel
theorem d_XO_nextUp_25 : decode prog_4_method_10_code 25 = .ok (.istore 5, 2) := by decide +kernel
theorem d_XO_nextUp_27 : decode prog_4_method_10_code 27 = .ok (.iload 5, 2) := by decide +kernel
theorem d_XO_nextUp_29 : decode prog_4_method_10_code 29 = .ok (.bipush 20, 2) := by decide +kernel
theorem d_XO_nextUp_31 : decode prog_4_method_10_code 31 = .ok (.if_icmp .ge 59, 3) := by decide +kernel
theorem d_XO_nextUp_34 : decode prog_4_method_10_code 34 = .ok (.iload_n 2, 1) := by decide +kernel
theorem d_XO_nextUp_35 : decode prog_4_method_10_code 35 = .ok (.iload 5, 2) := by decide +kernel
theorem d_XO_nextUp_37 : decode prog_4_method_10_code 37 = .ok (.invokestatic 29, 3) := by decide +kernel
theorem d_XO_nextUp_40 : decode prog_4_method_10_code 40 = .ok (.ifCond .eq 44, 3) := by decide +kernel
theorem d_XO_nextUp_43 : decode prog_4_method_10_code 43 = .ok (.iload_n 3, 1) := by decide +kernel
theorem d_XO_nextUp_44 : decode prog_4_method_10_code 44 = .ok (.aload_n 0, 1) := by decide +kernel
theorem d_XO_nextUp_45 : decode prog_4_method_10_code 45 = .ok (.getfield 21, 3) := by decide +kernel
theorem d_XO_nextUp_48 : decode prog_4_method_10_code 48 = .ok (.iload 5, 2) := by decide +kernel
theorem d_XO_nextUp_50 : decode prog_4_method_10_code 50 = .ok (.invokevirtual 68, 3) := by decide +kernel
theorem d_XO_nextUp_53 : decode prog_4_method_10_code 53 = .ok (.iconst (-1), 1) := by decide +kernel
theorem d_XO_nextUp_54 : decode prog_4_method_10_code 54 = .ok (.ixor, 1) := by decide +kernel
theorem d_XO_nextUp_55 : decode prog_4_method_10_code 55 = .ok (.iand, 1) := by decide +kernel
theorem d_XO_nextUp_56 : decode prog_4_method_10_code 56 = .ok (.ifCond .ne 28, 3) := by decide +kernel
theorem d_XO_nextUp_59 : decode prog_4_method_10_code 59 = .ok (.aload_n 0, 1) := by decide +kernel
theorem d_XO_nextUp_60 : decode prog_4_method_10_code 60 = .ok (.getfield 21, 3) := by decide +kernel
theorem d_XO_nextUp_63 : decode prog_4_method_10_code 63 = .ok (.iload 5, 2) := by decide +kernel
theorem d_XO_nextUp_65 : decode prog_4_method_10_code 65 = .ok (.invokevirtual 77, 3) := by decide +kernel
theorem d_XO_nextUp_68 : decode prog_4_method_10_code 68 = .ok (.aload_n 0, 1) := by decide +kernel
theorem d_XO_nextUp_69 : decode prog_4_method_10_code 69 = .ok (.getfield 9, 3) := by decide +kernel
theorem d_XO_nextUp_72 : decode prog_4_method_10_code 72 = .ok (.iand, 1) := by decide +kernel
theorem d_XO_nextUp_73 : decode prog_4_method_10_code 73 = .ok (.iload 4, 2) := by decide +kernel
theorem d_XO_nextUp_75 : decode prog_4_method_10_code 75 = .ok (.iconst (-1), 1) := by decide +kernel
theorem d_XO_nextUp_76 : decode prog_4_method_10_code 76 = .ok (.ixor, 1) := by decide +kernel
theorem d_XO_nextUp_77 : decode prog_4_method_10_code 77 = .ok (.iand, 1) := by decide +kernel
theorem d_XO_nextUp_78 : decode prog_4_method_10_code 78 = .ok (.ifCond .ne 6, 3) := by decide +kernel
theorem d_XO_nextUp_81 : decode prog_4_method_10_code 81 = .ok (.iload 5, 2) := by decide +kernel
theorem d_XO_nextUp_83 : decode prog_4_method_10_code 83 = .ok (.ireturn, 1) := by decide +kernel
theorem d_XO_nextUp_84 : decode prog_4_method_10_code 84 = .ok (.iinc 5 1, 3) := by decide +kernel
theorem d_XO_nextUp_87 : decode prog_4_method_10_code 87 = .ok (.goto (-60), 3) := by decide +kernel
theorem d_XO_nextUp_90 : decode prog_4_method_10_code 90 = .ok (.bipush (-6), 2) := by decide +kernel
theorem d_XO_nextUp_92 : decode prog_4_method_10_code 92 = .ok (.ireturn, 1) := by decide +kernel
theorem d_XK_allBelow_0 : decode prog_3_method_5_code 0 = .ok (.aload_n 0, 1) := by decide +kernel
theorem d_XK_allBelow_1 : decode prog_3_method_5_code 1 = .ok (.getfield 15, 3) := by decide +kernel
theorem d_XK_allBelow_4 : decode prog_3_method_5_code 4 = .ok (.iload_n 1, 1) := by decide +kernel
theorem d_XK_allBelow_5 : decode prog_3_method_5_code 5 = .ok (.iaload, 1) := by decide +kernel
theorem d_XK_allBelow_6 : decode prog_3_method_5_code 6 = .ok (.ireturn, 1) := by decide +kernel
theorem d_XK_strictlyBelow_0 : decode prog_3_method_7_code 0 = .ok (.aload_n 0, 1) := by decide +kernel
theorem d_XK_strictlyBelow_1 : decode prog_3_method_7_code 1 = .ok (.getfield 15, 3) := by decide +kernel
theorem d_XK_strictlyBelow_4 : decode prog_3_method_7_code 4 = .ok (.iload_n 1, 1) := by decide +kernel
theorem d_XK_strictlyBelow_5 : decode prog_3_method_7_code 5 = .ok (.iaload, 1) := by decide +kernel
theorem d_XK_strictlyBelow_6 : decode prog_3_method_7_code 6 = .ok (.aload_n 0, 1) := by decide +kernel
theorem d_XK_strictlyBelow_7 : decode prog_3_method_7_code 7 = .ok (.getfield 9, 3) := by decide +kernel
theorem d_XK_strictlyBelow_10 : decode prog_3_method_7_code 10 = .ok (.iload_n 1, 1) := by decide +kernel
theorem d_XK_strictlyBelow_11 : decode prog_3_method_7_code 11 = .ok (.iaload, 1) := by decide +kernel
theorem d_XK_strictlyBelow_12 : decode prog_3_method_7_code 12 = .ok (.iconst (-1), 1) := by decide +kernel
theorem d_XK_strictlyBelow_13 : decode prog_3_method_7_code 13 = .ok (.ixor, 1) := by decide +kernel
theorem d_XK_strictlyBelow_14 : decode prog_3_method_7_code 14 = .ok (.iand, 1) := by decide +kernel
theorem d_XK_strictlyBelow_15 : decode prog_3_method_7_code 15 = .ok (.ireturn, 1) := by decide +kernel
theorem d_X_parent_0 : decode prog_1_method_10_code 0 = .ok (.aload_n 0, 1) := by decide +kernel
theorem d_X_parent_1 : decode prog_1_method_10_code 1 = .ok (.iload_n 1, 1) := by decide +kernel
theorem d_X_parent_2 : decode prog_1_method_10_code 2 = .ok (.invokevirtual 63, 3) := by decide +kernel
theorem d_X_parent_5 : decode prog_1_method_10_code 5 = .ok (.ifCond .ne 5, 3) := by decide +kernel
theorem d_X_parent_8 : decode prog_1_method_10_code 8 = .ok (.iconst (-1), 1) := by decide +kernel
theorem d_X_parent_9 : decode prog_1_method_10_code 9 = .ok (.ireturn, 1) := by decide +kernel
theorem d_X_parent_10 : decode prog_1_method_10_code 10 = .ok (.aload_n 0, 1) := by decide +kernel
theorem d_X_parent_11 : decode prog_1_method_10_code 11 = .ok (.getfield 55, 3) := by decide +kernel
theorem d_X_parent_14 : decode prog_1_method_10_code 14 = .ok (.ifCond .ne 6, 3) := by decide +kernel
theorem d_X_parent_17 : decode prog_1_method_10_code 17 = .ok (.bipush (-3), 2) := by decide +kernel
theorem d_X_parent_19 : decode prog_1_method_10_code 19 = .ok (.ireturn, 1) := by decide +kernel
theorem d_X_parent_20 : decode prog_1_method_10_code 20 = .ok (.aload_n 0, 1) := by decide +kernel
theorem d_X_parent_21 : decode prog_1_method_10_code 21 = .ok (.getfield 37, 3) := by decide +kernel
theorem d_X_parent_24 : decode prog_1_method_10_code 24 = .ok (.iload_n 1, 1) := by decide +kernel
theorem d_X_parent_25 : decode prog_1_method_10_code 25 = .ok (.invokevirtual 124, 3) := by decide +kernel
theorem d_X_parent_28 : decode prog_1_method_10_code 28 = .ok (.ifCond .eq 13, 3) := by decide +kernel
theorem d_X_parent_31 : decode prog_1_method_10_code 31 = .ok (.aload_n 0, 1) := by decide +kernel
theorem d_X_parent_32 : decode prog_1_method_10_code 32 = .ok (.getfield 37, 3) := by decide +kernel
theorem d_X_parent_35 : decode prog_1_method_10_code 35 = .ok (.invokevirtual 127, 3) := by decide +kernel
theorem d_X_parent_38 : decode prog_1_method_10_code 38 = .ok (.goto 11, 3) := by decide +kernel
theorem d_X_parent_41 : decode prog_1_method_10_code 41 = .ok (.aload_n 0, 1) := by decide +kernel
theorem d_X_parent_42 : decode prog_1_method_10_code 42 = .ok (.getfield 37, 3) := by decide +kernel
theorem d_X_parent_45 : decode prog_1_method_10_code 45 = .ok (.iload_n 1, 1) := by decide +kernel
theorem d_X_parent_46 : decode prog_1_method_10_code 46 = .ok (.invokevirtual 131, 3) := by decide +kernel
theorem d_X_parent_49 : decode prog_1_method_10_code 49 = .ok (.istore_n 3, 1) := by decide +kernel
theorem d_X_parent_50 : decode prog_1_method_10_code 50 = .ok (.aload_n 0, 1) := by decide +kernel
theorem d_X_parent_51 : decode prog_1_method_10_code 51 = .ok (.getfield 37, 3) := by decide +kernel
theorem d_X_parent_54 : decode prog_1_method_10_code 54 = .ok (.iload_n 3, 1) := by decide +kernel
theorem d_X_parent_55 : decode prog_1_method_10_code 55 = .ok (.invokevirtual 134, 3) := by decide +kernel
theorem d_X_parent_58 : decode prog_1_method_10_code 58 = .ok (.iload_n 2, 1) := by decide +kernel
theorem d_X_parent_59 : decode prog_1_method_10_code 59 = .ok (.invokestatic 137, 3) := by decide +kernel
theorem d_X_parent_62 : decode prog_1_method_10_code 62 = .ok (.ireturn, 1) := by decide +kernel
theorem d_XO_isEmptyClass_0 : decode prog_4_method_4_code 0 = .ok (.aload_n 0, 1) := by decide +kernel
theorem d_XO_isEmptyClass_1 : decode prog_4_method_4_code 1 = .ok (.getfield 15, 3) := by decide +kernel
theorem d_XO_isEmptyClass_4 : decode prog_4_method_4_code 4 = .ok (.iload_n 1, 1) := by decide +kernel
theorem d_XO_isEmptyClass_5 : decode prog_4_method_4_code 5 = .ok (.invokestatic 29, 3) := by decide +kernel
theorem d_XO_isEmptyClass_8 : decode prog_4_method_4_code 8 = .ok (.ireturn, 1) := by decide +kernel
theorem d_XO_firstOfSame_0 : decode prog_4_method_15_code 0 = .ok (.iconst 0, 1) := by decide +kernel
theorem d_XO_firstOfSame_1 : decode prog_4_method_15_code 1 = .ok (.istore_n 2, 1) := by decide +kernel
theorem d_XO_firstOfSame_2 : decode prog_4_method_15_code 2 = .ok (.iconst 0, 1) := by decide +kernel
theorem d_XO_firstOfSame_3 : decode prog_4_method_15_code 3 = .ok (.istore_n 3, 1) := by decide +kernel
theorem d_XO_firstOfSame_4 : decode prog_4_method_15_code 4 = .ok (.iload_n 3, 1) := by decide +kernel
theorem d_XO_firstOfSame_5 : decode prog_4_method_15_code 5 = .ok (.bipush 20, 2) := by decide +kernel
theorem d_XO_firstOfSame_7 : decode prog_4_method_15_code 7 = .ok (.if_icmp .ge 47, 3) := by decide +kernel
theorem d_XO_firstOfSame_10 : decode prog_4_method_15_code 10 = .ok (.iload_n 1, 1) := by decide +kernel
theorem d_XO_firstOfSame_11 : decode prog_4_method_15_code 11 = .ok (.iload_n 3, 1) := by decide +kernel
theorem d_XO_firstOfSame_12 : decode prog_4_method_15_code 12 = .ok (.invokestatic 29, 3) := by decide +kernel
theorem d_XO_firstOfSame_15 : decode prog_4_method_15_code 15 = .ok (.ifCond .eq 33, 3) := by decide +kernel
theorem d_XO_firstOfSame_18 : decode prog_4_method_15_code 18 = .ok (.aload_n 0, 1) := by decide +kernel
theorem d_XO_firstOfSame_19 : decode prog_4_method_15_code 19 = .ok (.getfield 21, 3) := by decide +kernel
theorem d_XO_firstOfSame_22 : decode prog_4_method_15_code 22 = .ok (.iload_n 3, 1) := by decide +kernel
theorem d_XO_firstOfSame_23 : decode prog_4_method_15_code 23 = .ok (.invokevirtual 86, 3) := by decide +kernel
theorem d_XO_firstOfSame_26 : decode prog_4_method_15_code 26 = .ok (.aload_n 0, 1) := by decide +kernel
theorem d_XO_firstOfSame_27 : decode prog_4_method_15_code 27 = .ok (.getfield 9, 3) := by decide +kernel
theorem d_XO_firstOfSame_30 : decode prog_4_method_15_code 30 = .ok (.iand, 1) := by decide +kernel
theorem d_XO_firstOfSame_31 : decode prog_4_method_15_code 31 = .ok (.iload_n 3, 1) := by decide +kernel
theorem d_XO_firstOfSame_32 : decode prog_4_method_15_code 32 = .ok (.invokestatic 37, 3) := by decide +kernel
theorem d_XO_firstOfSame_35 : decode prog_4_method_15_code 35 = .ok (.iconst 1, 1) := by decide +kernel
theorem d_XO_firstOfSame_36 : decode prog_4_method_15_code 36 = .ok (.isub, 1) := by decide +kernel
theorem d_XO_firstOfSame_37 : decode prog_4_method_15_code 37 = .ok (.iand, 1) := by decide +kernel
theorem d_XO_firstOfSame_38 : decode prog_4_method_15_code 38 = .ok (.ifCond .ne 10, 3) := by decide +kernel
theorem d_XO_firstOfSame_41 : decode prog_4_method_15_code 41 = .ok (.iload_n 2, 1) := by decide +kernel
theorem d_XO_firstOfSame_42 : decode prog_4_method_15_code 42 = .ok (.iload_n 3, 1) := by decide +kernel
theorem d_XO_firstOfSame_43 : decode prog_4_method_15_code 43 = .ok (.invokestatic 37, 3) := by decide +kernel
theorem d_XO_firstOfSame_46 : decode prog_4_method_15_code 46 = .ok (.ior, 1) := by decide +kernel
theorem d_XO_firstOfSame_47 : decode prog_4_method_15_code 47 = .ok (.istore_n 2, 1) := by decide +kernel
theorem d_XO_firstOfSame_48 : decode prog_4_method_15_code 48 = .ok (.iinc 3 1, 3) := by decide +kernel
theorem d_XO_firstOfSame_51 : decode prog_4_method_15_code 51 = .ok (.goto (-47), 3) := by decide +kernel
theorem d_XO_firstOfSame_54 : decode prog_4_method_15_code 54 = .ok (.iload_n 2, 1) := by decide +kernel
theorem d_XO_firstOfSame_55 : decode prog_4_method_15_code 55 = .ok (.ireturn, 1) := by decide +kernel
theorem d_XK_sameAs_0 : decode prog_3_method_8_code 0 = .ok (.aload_n 0, 1) := by decide +kernel
theorem d_XK_sameAs_1 : decode prog_3_method_8_code 1 = .ok (.getfield 9, 3) := by decide +kernel
theorem d_XK_sameAs_4 : decode prog_3_method_8_code 4 = .ok (.iload_n 1, 1) := by decide +kernel
theorem d_XK_sameAs_5 : decode prog_3_method_8_code 5 = .ok (.iaload, 1) := by decide +kernel
theorem d_XK_sameAs_6 : decode prog_3_method_8_code 6 = .ok (.aload_n 0, 1) := by decide +kernel
theorem d_XK_sameAs_7 : decode prog_3_method_8_code 7 = .ok (.getfield 15, 3) := by decide +kernel
theorem d_XK_sameAs_10 : decode prog_3_method_8_code 10 = .ok (.iload_n 1, 1) := by decide +kernel
theorem d_XK_sameAs_11 : decode prog_3_method_8_code 11 = .ok (.iaload, 1) := by decide +kernel
theorem d_XK_sameAs_12 : decode prog_3_method_8_code 12 = .ok (.iand, 1) := by decide +kernel
theorem d_XK_sameAs_13 : decode prog_3_method_8_code 13 = .ok (.ireturn, 1) := by decide +kernel
theorem d_X_pick_0 : decode prog_1_method_26_code 0 = .ok (.iload_n 1, 1) := by decide +kernel
theorem d_X_pick_1 : decode prog_1_method_26_code 1 = .ok (.istore_n 2, 1) := by decide +kernel
theorem d_X_pick_2 : decode prog_1_method_26_code 2 = .ok (.iconst 0, 1) := by decide +kernel
theorem d_X_pick_3 : decode prog_1_method_26_code 3 = .ok (.istore_n 3, 1) := by decide +kernel
theorem d_X_pick_4 : decode prog_1_method_26_code 4 = .ok (.iload_n 3, 1) := by decide +kernel
theorem d_X_pick_5 : decode prog_1_method_26_code 5 = .ok (.bipush 21, 2) := by decide +kernel
theorem d_X_pick_7 : decode prog_1_method_26_code 7 = .ok (.if_icmp .ge 26, 3) := by decide +kernel
theorem d_X_pick_10 : decode prog_1_method_26_code 10 = .ok (.iload_n 0, 1) := by decide +kernel
theorem d_X_pick_11 : decode prog_1_method_26_code 11 = .ok (.iload_n 3, 1) := by decide +kernel
theorem d_X_pick_12 : decode prog_1_method_26_code 12 = .ok (.invokestatic 160, 3) := by decide +kernel
theorem d_X_pick_15 : decode prog_1_method_26_code 15 = .ok (.ifCond .eq 12, 3) := by decide +kernel
theorem d_X_pick_18 : decode prog_1_method_26_code 18 = .ok (.iload_n 2, 1) := by decide +kernel
theorem d_X_pick_19 : decode prog_1_method_26_code 19 = .ok (.ifCond .ne 5, 3) := by decide +kernel
theorem d_X_pick_22 : decode prog_1_method_26_code 22 = .ok (.iload_n 3, 1) := by decide +kernel
theorem d_X_pick_23 : decode prog_1_method_26_code 23 = .ok (.ireturn, 1) := by decide +kernel
theorem d_X_pick_24 : decode prog_1_method_26_code 24 = .ok (.iinc 2 (-1), 3) := by decide +kernel
theorem d_X_pick_27 : decode prog_1_method_26_code 27 = .ok (.iinc 3 1, 3) := by decide +kernel
theorem d_X_pick_30 : decode prog_1_method_26_code 30 = .ok (.goto (-26), 3) := by decide +kernel
theorem d_X_pick_33 : decode prog_1_method_26_code 33 = .ok (.bipush (-6), 2) := by decide +kernel
theorem d_X_pick_35 : decode prog_1_method_26_code 35 = .ok (.ireturn, 1) := by decide +kernel
theorem d_XO_directlyAbove_0 : decode prog_4_method_11_code 0 = .ok (.aload_n 0, 1) := by decide +kernel
theorem d_XO_directlyAbove_1 : decode prog_4_method_11_code 1 = .ok (.getfield 21, 3) := by decide +kernel
theorem d_XO_directlyAbove_4 : decode prog_4_method_11_code 4 = .ok (.iload_n 1, 1) := by decide +kernel
theorem d_XO_directlyAbove_5 : decode prog_4_method_11_code 5 = .ok (.invokevirtual 71, 3) := by decide +kernel
theorem d_XO_directlyAbove_8 : decode prog_4_method_11_code 8 = .ok (.aload_n 0, 1) := by decide +kernel
theorem d_XO_directlyAbove_9 : decode prog_4_method_11_code 9 = .ok (.getfield 9, 3) := by decide +kernel
theorem d_XO_directlyAbove_12 : decode prog_4_method_11_code 12 = .ok (.iand, 1) := by decide +kernel
theorem d_XO_directlyAbove_13 : decode prog_4_method_11_code 13 = .ok (.istore_n 2, 1) := by decide +kernel
theorem d_XO_directlyAbove_14 : decode prog_4_method_11_code 14 = .ok (.iconst 0, 1) := by decide +kernel
theorem d_XO_directlyAbove_15 : decode prog_4_method_11_code 15 = .ok (.istore_n 3, 1) := by decide +kernel
theorem d_XO_directlyAbove_16 : decode prog_4_method_11_code 16 = .ok (.iconst 0, 1) := by decide +kernel
theorem d_XO_directlyAbove_17 : decode prog_4_method_11_code 17 = .ok (.istore 4, 2) := by decide +kernel
theorem d_XO_directlyAbove_19 : decode prog_4_method_11_code 19 = .ok (.iload 4, 2) := by decide +kernel
theorem d_XO_directlyAbove_21 : decode prog_4_method_11_code 21 = .ok (.bipush 20, 2) := by decide +kernel
theorem d_XO_directlyAbove_23 : decode prog_4_method_11_code 23 = .ok (.if_icmp .ge 40, 3) := by decide +kernel
theorem d_XO_directlyAbove_26 : decode prog_4_method_11_code 26 = .ok (.iload_n 2, 1) := by decide +kernel
theorem d_XO_directlyAbove_27 : decode prog_4_method_11_code 27 = .ok (.iload 4, 2) := by decide +kernel
theorem d_XO_directlyAbove_29 : decode prog_4_method_11_code 29 = .ok (.invokestatic 29, 3) := by decide +kernel
theorem d_XO_directlyAbove_32 : decode prog_4_method_11_code 32 = .ok (.ifCond .eq 25, 3) := by decide +kernel
theorem d_XO_directlyAbove_35 : decode prog_4_method_11_code 35 = .ok (.iload_n 2, 1) := by decide +kernel
theorem d_XO_directlyAbove_36 : decode prog_4_method_11_code 36 = .ok (.aload_n 0, 1) := by decide +kernel
theorem d_XO_directlyAbove_37 : decode prog_4_method_11_code 37 = .ok (.getfield 21, 3) := by decide +kernel
theorem d_XO_directlyAbove_40 : decode prog_4_method_11_code 40 = .ok (.iload 4, 2) := by decide +kernel
theorem d_XO_directlyAbove_42 : decode prog_4_method_11_code 42 = .ok (.invokevirtual 77, 3) := by decide +kernel
theorem d_XO_directlyAbove_45 : decode prog_4_method_11_code 45 = .ok (.iand, 1) := by decide +kernel
theorem d_XO_directlyAbove_46 : decode prog_4_method_11_code 46 = .ok (.ifCond .ne 11, 3) := by decide +kernel
theorem d_XO_directlyAbove_49 : decode prog_4_method_11_code 49 = .ok (.iload_n 3, 1) := by decide +kernel
theorem d_XO_directlyAbove_50 : decode prog_4_method_11_code 50 = .ok (.iload 4, 2) := by decide +kernel
theorem d_XO_directlyAbove_52 : decode prog_4_method_11_code 52 = .ok (.invokestatic 37, 3) := by decide +kernel
theorem d_XO_directlyAbove_55 : decode prog_4_method_11_code 55 = .ok (.ior, 1) := by decide +kernel
theorem d_XO_directlyAbove_56 : decode prog_4_method_11_code 56 = .ok (.istore_n 3, 1) := by decide +kernel
theorem d_XO_directlyAbove_57 : decode prog_4_method_11_code 57 = .ok (.iinc 4 1, 3) := by decide +kernel
theorem d_XO_directlyAbove_60 : decode prog_4_method_11_code 60 = .ok (.goto (-41), 3) := by decide +kernel
theorem d_XO_directlyAbove_63 : decode prog_4_method_11_code 63 = .ok (.iload_n 3, 1) := by decide +kernel
theorem d_XO_directlyAbove_64 : decode prog_4_method_11_code 64 = .ok (.ireturn, 1) := by decide +kernel
theorem d_XO_lowest_0 : decode prog_4_method_13_code 0 = .ok (.aload_n 0, 1) := by decide +kernel
theorem d_XO_lowest_1 : decode prog_4_method_13_code 1 = .ok (.aload_n 0, 1) := by decide +kernel
theorem d_XO_lowest_2 : decode prog_4_method_13_code 2 = .ok (.getfield 9, 3) := by decide +kernel
theorem d_XO_lowest_5 : decode prog_4_method_13_code 5 = .ok (.invokevirtual 80, 3) := by decide +kernel
theorem d_XO_lowest_8 : decode prog_4_method_13_code 8 = .ok (.ireturn, 1) := by decide +kernel
theorem d_XO_lowestAmong_0 : decode prog_4_method_14_code 0 = .ok (.iconst 0, 1) := by decide +kernel
theorem d_XO_lowestAmong_1 : decode prog_4_method_14_code 1 = .ok (.istore_n 2, 1) := by decide +kernel
theorem d_XO_lowestAmong_2 : decode prog_4_method_14_code 2 = .ok (.iconst 0, 1) := by decide +kernel
theorem d_XO_lowestAmong_3 : decode prog_4_method_14_code 3 = .ok (.istore_n 3, 1) := by decide +kernel
theorem d_XO_lowestAmong_4 : decode prog_4_method_14_code 4 = .ok (.iload_n 3, 1) := by decide +kernel
theorem d_XO_lowestAmong_5 : decode prog_4_method_14_code 5 = .ok (.bipush 20, 2) := by decide +kernel
theorem d_XO_lowestAmong_7 : decode prog_4_method_14_code 7 = .ok (.if_icmp .ge 39, 3) := by decide +kernel
theorem d_XO_lowestAmong_10 : decode prog_4_method_14_code 10 = .ok (.iload_n 1, 1) := by decide +kernel
theorem d_XO_lowestAmong_11 : decode prog_4_method_14_code 11 = .ok (.aload_n 0, 1) := by decide +kernel
theorem d_XO_lowestAmong_12 : decode prog_4_method_14_code 12 = .ok (.getfield 9, 3) := by decide +kernel
theorem d_XO_lowestAmong_15 : decode prog_4_method_14_code 15 = .ok (.iand, 1) := by decide +kernel
theorem d_XO_lowestAmong_16 : decode prog_4_method_14_code 16 = .ok (.iload_n 3, 1) := by decide +kernel
theorem d_XO_lowestAmong_17 : decode prog_4_method_14_code 17 = .ok (.invokestatic 29, 3) := by decide +kernel
theorem d_XO_lowestAmong_20 : decode prog_4_method_14_code 20 = .ok (.ifCond .eq 20, 3) := by decide +kernel
theorem d_XO_lowestAmong_23 : decode prog_4_method_14_code 23 = .ok (.aload_n 0, 1) := by decide +kernel
theorem d_XO_lowestAmong_24 : decode prog_4_method_14_code 24 = .ok (.iload_n 3, 1) := by decide +kernel
theorem d_XO_lowestAmong_25 : decode prog_4_method_14_code 25 = .ok (.invokevirtual 83, 3) := by decide +kernel
theorem d_XO_lowestAmong_28 : decode prog_4_method_14_code 28 = .ok (.iload_n 1, 1) := by decide +kernel
theorem d_XO_lowestAmong_29 : decode prog_4_method_14_code 29 = .ok (.iand, 1) := by decide +kernel
theorem d_XO_lowestAmong_30 : decode prog_4_method_14_code 30 = .ok (.ifCond .ne 10, 3) := by decide +kernel
theorem d_XO_lowestAmong_33 : decode prog_4_method_14_code 33 = .ok (.iload_n 2, 1) := by decide +kernel
theorem d_XO_lowestAmong_34 : decode prog_4_method_14_code 34 = .ok (.iload_n 3, 1) := by decide +kernel
theorem d_XO_lowestAmong_35 : decode prog_4_method_14_code 35 = .ok (.invokestatic 37, 3) := by decide +kernel
theorem d_XO_lowestAmong_38 : decode prog_4_method_14_code 38 = .ok (.ior, 1) := by decide +kernel
theorem d_XO_lowestAmong_39 : decode prog_4_method_14_code 39 = .ok (.istore_n 2, 1) := by decide +kernel
theorem d_XO_lowestAmong_40 : decode prog_4_method_14_code 40 = .ok (.iinc 3 1, 3) := by decide +kernel
theorem d_XO_lowestAmong_43 : decode prog_4_method_14_code 43 = .ok (.goto (-39), 3) := by decide +kernel
theorem d_XO_lowestAmong_46 : decode prog_4_method_14_code 46 = .ok (.iload_n 2, 1) := by decide +kernel
theorem d_XO_lowestAmong_47 : decode prog_4_method_14_code 47 = .ok (.ireturn, 1) := by decide +kernel
theorem d_XO_directlyBelow_0 : decode prog_4_method_12_code 0 = .ok (.aload_n 0, 1) := by decide +kernel
theorem d_XO_directlyBelow_1 : decode prog_4_method_12_code 1 = .ok (.getfield 21, 3) := by decide +kernel
theorem d_XO_directlyBelow_4 : decode prog_4_method_12_code 4 = .ok (.iload_n 1, 1) := by decide +kernel
theorem d_XO_directlyBelow_5 : decode prog_4_method_12_code 5 = .ok (.invokevirtual 77, 3) := by decide +kernel
theorem d_XO_directlyBelow_8 : decode prog_4_method_12_code 8 = .ok (.aload_n 0, 1) := by decide +kernel
theorem d_XO_directlyBelow_9 : decode prog_4_method_12_code 9 = .ok (.getfield 9, 3) := by decide +kernel
theorem d_XO_directlyBelow_12 : decode prog_4_method_12_code 12 = .ok (.iand, 1) := by decide +kernel
theorem d_XO_directlyBelow_13 : decode prog_4_method_12_code 13 = .ok (.istore_n 2, 1) := by decide +kernel
theorem d_XO_directlyBelow_14 : decode prog_4_method_12_code 14 = .ok (.iconst 0, 1) := by decide +kernel
theorem d_XO_directlyBelow_15 : decode prog_4_method_12_code 15 = .ok (.istore_n 3, 1) := by decide +kernel
theorem d_XO_directlyBelow_16 : decode prog_4_method_12_code 16 = .ok (.iconst 0, 1) := by decide +kernel
theorem d_XO_directlyBelow_17 : decode prog_4_method_12_code 17 = .ok (.istore 4, 2) := by decide +kernel
theorem d_XO_directlyBelow_19 : decode prog_4_method_12_code 19 = .ok (.iload 4, 2) := by decide +kernel
theorem d_XO_directlyBelow_21 : decode prog_4_method_12_code 21 = .ok (.bipush 20, 2) := by decide +kernel
theorem d_XO_directlyBelow_23 : decode prog_4_method_12_code 23 = .ok (.if_icmp .ge 40, 3) := by decide +kernel
theorem d_XO_directlyBelow_26 : decode prog_4_method_12_code 26 = .ok (.iload_n 2, 1) := by decide +kernel
theorem d_XO_directlyBelow_27 : decode prog_4_method_12_code 27 = .ok (.iload 4, 2) := by decide +kernel
theorem d_XO_directlyBelow_29 : decode prog_4_method_12_code 29 = .ok (.invokestatic 29, 3) := by decide +kernel
theorem d_XO_directlyBelow_32 : decode prog_4_method_12_code 32 = .ok (.ifCond .eq 25, 3) := by decide +kernel
theorem d_XO_directlyBelow_35 : decode prog_4_method_12_code 35 = .ok (.iload_n 2, 1) := by decide +kernel
theorem d_XO_directlyBelow_36 : decode prog_4_method_12_code 36 = .ok (.aload_n 0, 1) := by decide +kernel
theorem d_XO_directlyBelow_37 : decode prog_4_method_12_code 37 = .ok (.getfield 21, 3) := by decide +kernel
theorem d_XO_directlyBelow_40 : decode prog_4_method_12_code 40 = .ok (.iload 4, 2) := by decide +kernel
theorem d_XO_directlyBelow_42 : decode prog_4_method_12_code 42 = .ok (.invokevirtual 71, 3) := by decide +kernel
theorem d_XO_directlyBelow_45 : decode prog_4_method_12_code 45 = .ok (.iand, 1) := by decide +kernel
theorem d_XO_directlyBelow_46 : decode prog_4_method_12_code 46 = .ok (.ifCond .ne 11, 3) := by decide +kernel
theorem d_XO_directlyBelow_49 : decode prog_4_method_12_code 49 = .ok (.iload_n 3, 1) := by decide +kernel
theorem d_XO_directlyBelow_50 : decode prog_4_method_12_code 50 = .ok (.iload 4, 2) := by decide +kernel
theorem d_XO_directlyBelow_52 : decode prog_4_method_12_code 52 = .ok (.invokestatic 37, 3) := by decide +kernel
theorem d_XO_directlyBelow_55 : decode prog_4_method_12_code 55 = .ok (.ior, 1) := by decide +kernel
theorem d_XO_directlyBelow_56 : decode prog_4_method_12_code 56 = .ok (.istore_n 3, 1) := by decide +kernel
theorem d_XO_directlyBelow_57 : decode prog_4_method_12_code 57 = .ok (.iinc 4 1, 3) := by decide +kernel
theorem d_XO_directlyBelow_60 : decode prog_4_method_12_code 60 = .ok (.goto (-41), 3) := by decide +kernel
theorem d_XO_directlyBelow_63 : decode prog_4_method_12_code 63 = .ok (.iload_n 3, 1) := by decide +kernel
theorem d_XO_directlyBelow_64 : decode prog_4_method_12_code 64 = .ok (.ireturn, 1) := by decide +kernel
theorem d_X_child_0 : decode prog_1_method_11_code 0 = .ok (.aload_n 0, 1) := by decide +kernel
theorem d_X_child_1 : decode prog_1_method_11_code 1 = .ok (.iload_n 1, 1) := by decide +kernel
theorem d_X_child_2 : decode prog_1_method_11_code 2 = .ok (.invokevirtual 63, 3) := by decide +kernel
theorem d_X_child_5 : decode prog_1_method_11_code 5 = .ok (.ifCond .ne 5, 3) := by decide +kernel
theorem d_X_child_8 : decode prog_1_method_11_code 8 = .ok (.iconst (-1), 1) := by decide +kernel
theorem d_X_child_9 : decode prog_1_method_11_code 9 = .ok (.ireturn, 1) := by decide +kernel
theorem d_X_child_10 : decode prog_1_method_11_code 10 = .ok (.aload_n 0, 1) := by decide +kernel
theorem d_X_child_11 : decode prog_1_method_11_code 11 = .ok (.getfield 55, 3) := by decide +kernel
theorem d_X_child_14 : decode prog_1_method_11_code 14 = .ok (.ifCond .ne 6, 3) := by decide +kernel
theorem d_X_child_17 : decode prog_1_method_11_code 17 = .ok (.bipush (-3), 2) := by decide +kernel
theorem d_X_child_19 : decode prog_1_method_11_code 19 = .ok (.ireturn, 1) := by decide +kernel
theorem d_X_child_20 : decode prog_1_method_11_code 20 = .ok (.aload_n 0, 1) := by decide +kernel
theorem d_X_child_21 : decode prog_1_method_11_code 21 = .ok (.getfield 37, 3) := by decide +kernel
theorem d_X_child_24 : decode prog_1_method_11_code 24 = .ok (.iload_n 1, 1) := by decide +kernel
theorem d_X_child_25 : decode prog_1_method_11_code 25 = .ok (.invokevirtual 124, 3) := by decide +kernel
theorem d_X_child_28 : decode prog_1_method_11_code 28 = .ok (.ifCond .eq 7, 3) := by decide +kernel
theorem d_X_child_31 : decode prog_1_method_11_code 31 = .ok (.iconst 0, 1) := by decide +kernel
theorem d_X_child_32 : decode prog_1_method_11_code 32 = .ok (.goto 11, 3) := by decide +kernel
theorem d_X_child_35 : decode prog_1_method_11_code 35 = .ok (.aload_n 0, 1) := by decide +kernel
theorem d_X_child_36 : decode prog_1_method_11_code 36 = .ok (.getfield 37, 3) := by decide +kernel
theorem d_X_child_39 : decode prog_1_method_11_code 39 = .ok (.iload_n 1, 1) := by decide +kernel
theorem d_X_child_40 : decode prog_1_method_11_code 40 = .ok (.invokevirtual 140, 3) := by decide +kernel
theorem d_X_child_43 : decode prog_1_method_11_code 43 = .ok (.istore_n 3, 1) := by decide +kernel
theorem d_X_child_44 : decode prog_1_method_11_code 44 = .ok (.aload_n 0, 1) := by decide +kernel
theorem d_X_child_45 : decode prog_1_method_11_code 45 = .ok (.getfield 37, 3) := by decide +kernel
theorem d_X_child_48 : decode prog_1_method_11_code 48 = .ok (.iload_n 3, 1) := by decide +kernel
theorem d_X_child_49 : decode prog_1_method_11_code 49 = .ok (.invokevirtual 134, 3) := by decide +kernel
theorem d_X_child_52 : decode prog_1_method_11_code 52 = .ok (.iload_n 2, 1) := by decide +kernel
theorem d_X_child_53 : decode prog_1_method_11_code 53 = .ok (.invokestatic 137, 3) := by decide +kernel
theorem d_X_child_56 : decode prog_1_method_11_code 56 = .ok (.ireturn, 1) := by decide +kernel
theorem d_X_equal_0 : decode prog_1_method_12_code 0 = .ok (.aload_n 0, 1) := by decide +kernel
theorem d_X_equal_1 : decode prog_1_method_12_code 1 = .ok (.iload_n 1, 1) := by decide +kernel
theorem d_X_equal_2 : decode prog_1_method_12_code 2 = .ok (.invokevirtual 63, 3) := by decide +kernel
theorem d_X_equal_5 : decode prog_1_method_12_code 5 = .ok (.ifCond .ne 5, 3) := by decide +kernel
theorem d_X_equal_8 : decode prog_1_method_12_code 8 = .ok (.iconst (-1), 1) := by decide +kernel
theorem d_X_equal_9 : decode prog_1_method_12_code 9 = .ok (.ireturn, 1) := by decide +kernel
theorem d_X_equal_10 : decode prog_1_method_12_code 10 = .ok (.aload_n 0, 1) := by decide +kernel
theorem d_X_equal_11 : decode prog_1_method_12_code 11 = .ok (.getfield 55, 3) := by decide +kernel
theorem d_X_equal_14 : decode prog_1_method_12_code 14 = .ok (.ifCond .ne 6, 3) := by decide +kernel
theorem d_X_equal_17 : decode prog_1_method_12_code 17 = .ok (.bipush (-3), 2) := by decide +kernel
theorem d_X_equal_19 : decode prog_1_method_12_code 19 = .ok (.ireturn, 1) := by decide +kernel
theorem d_X_equal_20 : decode prog_1_method_12_code 20 = .ok (.aload_n 0, 1) := by decide +kernel
theorem d_X_equal_21 : decode prog_1_method_12_code 21 = .ok (.getfield 28, 3) := by decide +kernel
theorem d_X_equal_24 : decode prog_1_method_12_code 24 = .ok (.iload_n 1, 1) := by decide +kernel
theorem d_X_equal_25 : decode prog_1_method_12_code 25 = .ok (.invokevirtual 143, 3) := by decide +kernel
theorem d_X_equal_28 : decode prog_1_method_12_code 28 = .ok (.bipush 20, 2) := by decide +kernel
theorem d_X_equal_30 : decode prog_1_method_12_code 30 = .ok (.invokestatic 74, 3) := by decide +kernel
theorem d_X_equal_33 : decode prog_1_method_12_code 33 = .ok (.iconst (-1), 1) := by decide +kernel
theorem d_X_equal_34 : decode prog_1_method_12_code 34 = .ok (.ixor, 1) := by decide +kernel
theorem d_X_equal_35 : decode prog_1_method_12_code 35 = .ok (.iand, 1) := by decide +kernel
theorem d_X_equal_36 : decode prog_1_method_12_code 36 = .ok (.iload_n 2, 1) := by decide +kernel
theorem d_X_equal_37 : decode prog_1_method_12_code 37 = .ok (.invokestatic 137, 3) := by decide +kernel
theorem d_X_equal_40 : decode prog_1_method_12_code 40 = .ok (.ireturn, 1) := by decide +kernel
theorem d_X_empty_0 : decode prog_1_method_13_code 0 = .ok (.aload_n 0, 1) := by decide +kernel
theorem d_X_empty_1 : decode prog_1_method_13_code 1 = .ok (.getfield 55, 3) := by decide +kernel
theorem d_X_empty_4 : decode prog_1_method_13_code 4 = .ok (.ifCond .ne 6, 3) := by decide +kernel
theorem d_X_empty_7 : decode prog_1_method_13_code 7 = .ok (.bipush (-3), 2) := by decide +kernel
theorem d_X_empty_9 : decode prog_1_method_13_code 9 = .ok (.ireturn, 1) := by decide +kernel
theorem d_X_empty_10 : decode prog_1_method_13_code 10 = .ok (.aload_n 0, 1) := by decide +kernel
theorem d_X_empty_11 : decode prog_1_method_13_code 11 = .ok (.getfield 37, 3) := by decide +kernel
theorem d_X_empty_14 : decode prog_1_method_13_code 14 = .ok (.invokevirtual 146, 3) := by decide +kernel
theorem d_X_empty_17 : decode prog_1_method_13_code 17 = .ok (.iload_n 1, 1) := by decide +kernel
theorem d_X_empty_18 : decode prog_1_method_13_code 18 = .ok (.invokestatic 137, 3) := by decide +kernel
theorem d_X_empty_21 : decode prog_1_method_13_code 21 = .ok (.ireturn, 1) := by decide +kernel
theorem d_XO_emptyClasses_0 : decode prog_4_method_3_code 0 = .ok (.aload_n 0, 1) := by decide +kernel
theorem d_XO_emptyClasses_1 : decode prog_4_method_3_code 1 = .ok (.getfield 15, 3) := by decide +kernel
theorem d_XO_emptyClasses_4 : decode prog_4_method_3_code 4 = .ok (.ireturn, 1) := by decide +kernel
theorem d_X_open_0 : decode prog_1_method_14_code 0 = .ok (.iload_n 1, 1) := by decide +kernel
theorem d_X_open_1 : decode prog_1_method_14_code 1 = .ok (.istore_n 2, 1) := by decide +kernel
theorem d_X_open_2 : decode prog_1_method_14_code 2 = .ok (.iconst 0, 1) := by decide +kernel
theorem d_X_open_3 : decode prog_1_method_14_code 3 = .ok (.istore_n 3, 1) := by decide +kernel
theorem d_X_open_4 : decode prog_1_method_14_code 4 = .ok (.iload_n 3, 1) := by decide +kernel
theorem d_X_open_5 : decode prog_1_method_14_code 5 = .ok (.aload_n 0, 1) := by decide +kernel
theorem d_X_open_6 : decode prog_1_method_14_code 6 = .ok (.getfield 45, 3) := by decide +kernel
theorem d_X_open_9 : decode prog_1_method_14_code 9 = .ok (.if_icmp .ge 62, 3) := by decide +kernel
theorem d_X_open_12 : decode prog_1_method_14_code 12 = .ok (.aload_n 0, 1) := by decide +kernel
theorem d_X_open_13 : decode prog_1_method_14_code 13 = .ok (.getfield 28, 3) := by decide +kernel
theorem d_X_open_16 : decode prog_1_method_14_code 16 = .ok (.iload_n 3, 1) := by decide +kernel
theorem d_X_open_17 : decode prog_1_method_14_code 17 = .ok (.invokevirtual 149, 3) := by decide +kernel
theorem d_X_open_20 : decode prog_1_method_14_code 20 = .ok (.istore 4, 2) := by decide +kernel
theorem d_X_open_22 : decode prog_1_method_14_code 22 = .ok (.iload 4, 2) := by decide +kernel
theorem d_X_open_24 : decode prog_1_method_14_code 24 = .ok (.iload_n 2, 1) := by decide +kernel
theorem d_X_open_25 : decode prog_1_method_14_code 25 = .ok (.invokestatic 137, 3) := by decide +kernel
theorem d_X_open_28 : decode prog_1_method_14_code 28 = .ok (.istore 5, 2) := by decide +kernel
theorem d_X_open_30 : decode prog_1_method_14_code 30 = .ok (.iload 5, 2) := by decide +kernel
theorem d_X_open_32 : decode prog_1_method_14_code 32 = .ok (.bipush (-6), 2) := by decide +kernel
theorem d_X_open_34 : decode prog_1_method_14_code 34 = .ok (.if_icmp .eq 23, 3) := by decide +kernel
theorem d_X_open_37 : decode prog_1_method_14_code 37 = .ok (.bipush 32, 2) := by decide +kernel
theorem d_X_open_39 : decode prog_1_method_14_code 39 = .ok (.iload_n 3, 1) := by decide +kernel
theorem d_X_open_40 : decode prog_1_method_14_code 40 = .ok (.imul, 1) := by decide +kernel
theorem d_X_open_41 : decode prog_1_method_14_code 41 = .ok (.iload 5, 2) := by decide +kernel
theorem d_X_open_43 : decode prog_1_method_14_code 43 = .ok (.bipush 20, 2) := by decide +kernel
theorem d_X_open_45 : decode prog_1_method_14_code 45 = .ok (.if_icmp .ne 8, 3) := by decide +kernel
theorem d_X_open_48 : decode prog_1_method_14_code 48 = .ok (.bipush 31, 2) := by decide +kernel
theorem d_X_open_50 : decode prog_1_method_14_code 50 = .ok (.goto 5, 3) := by decide +kernel
theorem d_X_open_53 : decode prog_1_method_14_code 53 = .ok (.iload 5, 2) := by decide +kernel
theorem d_X_open_55 : decode prog_1_method_14_code 55 = .ok (.iadd, 1) := by decide +kernel
theorem d_X_open_56 : decode prog_1_method_14_code 56 = .ok (.ireturn, 1) := by decide +kernel
theorem d_X_open_57 : decode prog_1_method_14_code 57 = .ok (.iload_n 2, 1) := by decide +kernel
theorem d_X_open_58 : decode prog_1_method_14_code 58 = .ok (.iload 4, 2) := by decide +kernel
theorem d_X_open_60 : decode prog_1_method_14_code 60 = .ok (.invokestatic 152, 3) := by decide +kernel
theorem d_X_open_63 : decode prog_1_method_14_code 63 = .ok (.isub, 1) := by decide +kernel
theorem d_X_open_64 : decode prog_1_method_14_code 64 = .ok (.istore_n 2, 1) := by decide +kernel
theorem d_X_open_65 : decode prog_1_method_14_code 65 = .ok (.iinc 3 1, 3) := by decide +kernel
theorem d_X_open_68 : decode prog_1_method_14_code 68 = .ok (.goto (-64), 3) := by decide +kernel
theorem d_X_open_71 : decode prog_1_method_14_code 71 = .ok (.bipush (-6), 2) := by decide +kernel
theorem d_X_open_73 : decode prog_1_method_14_code 73 = .ok (.ireturn, 1) := by decide +kernel
theorem d_XK_openOf_0 : decode prog_3_method_9_code 0 = .ok (.aload_n 0, 1) := by decide +kernel
theorem d_XK_openOf_1 : decode prog_3_method_9_code 1 = .ok (.getfield 21, 3) := by decide +kernel
theorem d_XK_openOf_4 : decode prog_3_method_9_code 4 = .ok (.iload_n 1, 1) := by decide +kernel
theorem d_XK_openOf_5 : decode prog_3_method_9_code 5 = .ok (.iaload, 1) := by decide +kernel
theorem d_XK_openOf_6 : decode prog_3_method_9_code 6 = .ok (.ireturn, 1) := by decide +kernel
theorem d_X_put_0 : decode prog_1_method_15_code 0 = .ok (.aload_n 0, 1) := by decide +kernel
theorem d_X_put_1 : decode prog_1_method_15_code 1 = .ok (.iload_n 1, 1) := by decide +kernel
theorem d_X_put_2 : decode prog_1_method_15_code 2 = .ok (.invokevirtual 157, 3) := by decide +kernel
theorem d_X_put_5 : decode prog_1_method_15_code 5 = .ok (.ifCond .eq 11, 3) := by decide +kernel
theorem d_X_put_8 : decode prog_1_method_15_code 8 = .ok (.aload_n 0, 1) := by decide +kernel
theorem d_X_put_9 : decode prog_1_method_15_code 9 = .ok (.iload_n 2, 1) := by decide +kernel
theorem d_X_put_10 : decode prog_1_method_15_code 10 = .ok (.invokevirtual 63, 3) := by decide +kernel
theorem d_X_put_13 : decode prog_1_method_15_code 13 = .ok (.ifCond .ne 5, 3) := by decide +kernel
theorem d_X_put_16 : decode prog_1_method_15_code 16 = .ok (.iconst (-1), 1) := by decide +kernel
theorem d_X_put_17 : decode prog_1_method_15_code 17 = .ok (.ireturn, 1) := by decide +kernel
theorem d_X_put_18 : decode prog_1_method_15_code 18 = .ok (.aload_n 0, 1) := by decide +kernel
theorem d_X_put_19 : decode prog_1_method_15_code 19 = .ok (.getfield 41, 3) := by decide +kernel
theorem d_X_put_22 : decode prog_1_method_15_code 22 = .ok (.iload_n 1, 1) := by decide +kernel
theorem d_X_put_23 : decode prog_1_method_15_code 23 = .ok (.iaload, 1) := by decide +kernel
theorem d_X_put_24 : decode prog_1_method_15_code 24 = .ok (.iload_n 2, 1) := by decide +kernel
theorem d_X_put_25 : decode prog_1_method_15_code 25 = .ok (.invokestatic 160, 3) := by decide +kernel
theorem d_X_put_28 : decode prog_1_method_15_code 28 = .ok (.ifCond .eq 5, 3) := by decide +kernel
theorem d_X_put_31 : decode prog_1_method_15_code 31 = .ok (.iconst 0, 1) := by decide +kernel
theorem d_X_put_32 : decode prog_1_method_15_code 32 = .ok (.ireturn, 1) := by decide +kernel
theorem d_X_put_33 : decode prog_1_method_15_code 33 = .ok (.aload_n 0, 1) := by decide +kernel
theorem d_X_put_34 : decode prog_1_method_15_code 34 = .ok (.getfield 41, 3) := by decide +kernel
theorem d_X_put_37 : decode prog_1_method_15_code 37 = .ok (.iload_n 1, 1) := by decide +kernel
theorem d_X_put_38 : decode prog_1_method_15_code 38 = .ok (.dup2, 1) := by decide +kernel
theorem d_X_put_39 : decode prog_1_method_15_code 39 = .ok (.iaload, 1) := by decide +kernel
theorem d_X_put_40 : decode prog_1_method_15_code 40 = .ok (.iload_n 2, 1) := by decide +kernel
theorem d_X_put_41 : decode prog_1_method_15_code 41 = .ok (.invokestatic 74, 3) := by decide +kernel
theorem d_X_put_44 : decode prog_1_method_15_code 44 = .ok (.ior, 1) := by decide +kernel
theorem d_X_put_45 : decode prog_1_method_15_code 45 = .ok (.iastore, 1) := by decide +kernel
theorem d_X_put_46 : decode prog_1_method_15_code 46 = .ok (.iconst 1, 1) := by decide +kernel
theorem d_X_put_47 : decode prog_1_method_15_code 47 = .ok (.ireturn, 1) := by decide +kernel
theorem d_X_isThing_0 : decode prog_1_method_20_code 0 = .ok (.iload_n 1, 1) := by decide +kernel
theorem d_X_isThing_1 : decode prog_1_method_20_code 1 = .ok (.ifCond .lt 15, 3) := by decide +kernel
theorem d_X_isThing_4 : decode prog_1_method_20_code 4 = .ok (.iload_n 1, 1) := by decide +kernel
theorem d_X_isThing_5 : decode prog_1_method_20_code 5 = .ok (.aload_n 0, 1) := by decide +kernel
theorem d_X_isThing_6 : decode prog_1_method_20_code 6 = .ok (.getfield 49, 3) := by decide +kernel
theorem d_X_isThing_9 : decode prog_1_method_20_code 9 = .ok (.if_icmp .ge 7, 3) := by decide +kernel
theorem d_X_isThing_12 : decode prog_1_method_20_code 12 = .ok (.iconst 1, 1) := by decide +kernel
theorem d_X_isThing_13 : decode prog_1_method_20_code 13 = .ok (.goto 4, 3) := by decide +kernel
theorem d_X_isThing_16 : decode prog_1_method_20_code 16 = .ok (.iconst 0, 1) := by decide +kernel
theorem d_X_isThing_17 : decode prog_1_method_20_code 17 = .ok (.ireturn, 1) := by decide +kernel
theorem d_X_type_0 : decode prog_1_method_16_code 0 = .ok (.aload_n 0, 1) := by decide +kernel
theorem d_X_type_1 : decode prog_1_method_16_code 1 = .ok (.iload_n 1, 1) := by decide +kernel
theorem d_X_type_2 : decode prog_1_method_16_code 2 = .ok (.invokevirtual 157, 3) := by decide +kernel
theorem d_X_type_5 : decode prog_1_method_16_code 5 = .ok (.ifCond .ne 5, 3) := by decide +kernel
theorem d_X_type_8 : decode prog_1_method_16_code 8 = .ok (.iconst (-1), 1) := by decide +kernel
theorem d_X_type_9 : decode prog_1_method_16_code 9 = .ok (.ireturn, 1) := by decide +kernel
theorem d_X_type_10 : decode prog_1_method_16_code 10 = .ok (.aload_n 0, 1) := by decide +kernel
theorem d_X_type_11 : decode prog_1_method_16_code 11 = .ok (.getfield 55, 3) := by decide +kernel
theorem d_X_type_14 : decode prog_1_method_16_code 14 = .ok (.ifCond .ne 6, 3) := by decide +kernel
theorem d_X_type_17 : decode prog_1_method_16_code 17 = .ok (.bipush (-3), 2) := by decide +kernel
theorem d_X_type_19 : decode prog_1_method_16_code 19 = .ok (.ireturn, 1) := by decide +kernel
theorem d_X_type_20 : decode prog_1_method_16_code 20 = .ok (.aload_n 0, 1) := by decide +kernel
theorem d_X_type_21 : decode prog_1_method_16_code 21 = .ok (.getfield 21, 3) := by decide +kernel
theorem d_X_type_24 : decode prog_1_method_16_code 24 = .ok (.aload_n 0, 1) := by decide +kernel
theorem d_X_type_25 : decode prog_1_method_16_code 25 = .ok (.getfield 41, 3) := by decide +kernel
theorem d_X_type_28 : decode prog_1_method_16_code 28 = .ok (.iload_n 1, 1) := by decide +kernel
theorem d_X_type_29 : decode prog_1_method_16_code 29 = .ok (.iaload, 1) := by decide +kernel
theorem d_X_type_30 : decode prog_1_method_16_code 30 = .ok (.bipush 20, 2) := by decide +kernel
theorem d_X_type_32 : decode prog_1_method_16_code 32 = .ok (.invokevirtual 118, 3) := by decide +kernel
theorem d_X_type_35 : decode prog_1_method_16_code 35 = .ok (.iconst 1, 1) := by decide +kernel
theorem d_X_type_36 : decode prog_1_method_16_code 36 = .ok (.if_icmp .ne 6, 3) := by decide +kernel
theorem d_X_type_39 : decode prog_1_method_16_code 39 = .ok (.bipush (-5), 2) := by decide +kernel
theorem d_X_type_41 : decode prog_1_method_16_code 41 = .ok (.ireturn, 1) := by decide +kernel
theorem d_X_type_42 : decode prog_1_method_16_code 42 = .ok (.aload_n 0, 1) := by decide +kernel
theorem d_X_type_43 : decode prog_1_method_16_code 43 = .ok (.getfield 37, 3) := by decide +kernel
theorem d_X_type_46 : decode prog_1_method_16_code 46 = .ok (.aload_n 0, 1) := by decide +kernel
theorem d_X_type_47 : decode prog_1_method_16_code 47 = .ok (.getfield 37, 3) := by decide +kernel
theorem d_X_type_50 : decode prog_1_method_16_code 50 = .ok (.aload_n 0, 1) := by decide +kernel
theorem d_X_type_51 : decode prog_1_method_16_code 51 = .ok (.getfield 21, 3) := by decide +kernel
theorem d_X_type_54 : decode prog_1_method_16_code 54 = .ok (.invokevirtual 164, 3) := by decide +kernel
theorem d_X_type_57 : decode prog_1_method_16_code 57 = .ok (.invokevirtual 167, 3) := by decide +kernel
theorem d_X_type_60 : decode prog_1_method_16_code 60 = .ok (.invokevirtual 134, 3) := by decide +kernel
theorem d_X_type_63 : decode prog_1_method_16_code 63 = .ok (.iload_n 2, 1) := by decide +kernel
theorem d_X_type_64 : decode prog_1_method_16_code 64 = .ok (.invokestatic 137, 3) := by decide +kernel
theorem d_X_type_67 : decode prog_1_method_16_code 67 = .ok (.ireturn, 1) := by decide +kernel
theorem d_XR_facts_0 : decode prog_5_method_3_code 0 = .ok (.aload_n 0, 1) := by decide +kernel
theorem d_XR_facts_1 : decode prog_5_method_3_code 1 = .ok (.getfield 22, 3) := by decide +kernel
theorem d_XR_facts_4 : decode prog_5_method_3_code 4 = .ok (.ireturn, 1) := by decide +kernel
theorem d_X_trace_0 : decode prog_1_method_17_code 0 = .ok (.aload_n 0, 1) := by decide +kernel
theorem d_X_trace_1 : decode prog_1_method_17_code 1 = .ok (.iload_n 1, 1) := by decide +kernel
theorem d_X_trace_2 : decode prog_1_method_17_code 2 = .ok (.invokevirtual 63, 3) := by decide +kernel
theorem d_X_trace_5 : decode prog_1_method_17_code 5 = .ok (.ifCond .eq 11, 3) := by decide +kernel
theorem d_X_trace_8 : decode prog_1_method_17_code 8 = .ok (.aload_n 0, 1) := by decide +kernel
theorem d_X_trace_9 : decode prog_1_method_17_code 9 = .ok (.iload_n 2, 1) := by decide +kernel
theorem d_X_trace_10 : decode prog_1_method_17_code 10 = .ok (.invokevirtual 67, 3) := by decide +kernel
theorem d_X_trace_13 : decode prog_1_method_17_code 13 = .ok (.ifCond .ne 5, 3) := by decide +kernel
theorem d_X_trace_16 : decode prog_1_method_17_code 16 = .ok (.iconst (-1), 1) := by decide +kernel
theorem d_X_trace_17 : decode prog_1_method_17_code 17 = .ok (.ireturn, 1) := by decide +kernel
theorem d_X_trace_18 : decode prog_1_method_17_code 18 = .ok (.aload_n 0, 1) := by decide +kernel
theorem d_X_trace_19 : decode prog_1_method_17_code 19 = .ok (.getfield 21, 3) := by decide +kernel
theorem d_X_trace_22 : decode prog_1_method_17_code 22 = .ok (.iload_n 1, 1) := by decide +kernel
theorem d_X_trace_23 : decode prog_1_method_17_code 23 = .ok (.invokestatic 74, 3) := by decide +kernel
theorem d_X_trace_26 : decode prog_1_method_17_code 26 = .ok (.iload_n 2, 1) := by decide +kernel
theorem d_X_trace_27 : decode prog_1_method_17_code 27 = .ok (.invokestatic 78, 3) := by decide +kernel
theorem d_X_trace_30 : decode prog_1_method_17_code 30 = .ok (.invokevirtual 118, 3) := by decide +kernel
theorem d_X_trace_33 : decode prog_1_method_17_code 33 = .ok (.iconst 1, 1) := by decide +kernel
theorem d_X_trace_34 : decode prog_1_method_17_code 34 = .ok (.if_icmp .eq 6, 3) := by decide +kernel
theorem d_X_trace_37 : decode prog_1_method_17_code 37 = .ok (.bipush (-6), 2) := by decide +kernel
theorem d_X_trace_39 : decode prog_1_method_17_code 39 = .ok (.ireturn, 1) := by decide +kernel
theorem d_X_trace_40 : decode prog_1_method_17_code 40 = .ok (.aload_n 0, 1) := by decide +kernel
theorem d_X_trace_41 : decode prog_1_method_17_code 41 = .ok (.getfield 21, 3) := by decide +kernel
theorem d_X_trace_44 : decode prog_1_method_17_code 44 = .ok (.invokevirtual 170, 3) := by decide +kernel
theorem d_X_trace_47 : decode prog_1_method_17_code 47 = .ok (.iload_n 3, 1) := by decide +kernel
theorem d_X_trace_48 : decode prog_1_method_17_code 48 = .ok (.invokestatic 137, 3) := by decide +kernel
theorem d_X_trace_51 : decode prog_1_method_17_code 51 = .ok (.istore 4, 2) := by decide +kernel
theorem d_X_trace_53 : decode prog_1_method_17_code 53 = .ok (.iload 4, 2) := by decide +kernel
theorem d_X_trace_55 : decode prog_1_method_17_code 55 = .ok (.bipush (-6), 2) := by decide +kernel
theorem d_X_trace_57 : decode prog_1_method_17_code 57 = .ok (.if_icmp .ne 8, 3) := by decide +kernel
theorem d_X_trace_60 : decode prog_1_method_17_code 60 = .ok (.bipush (-6), 2) := by decide +kernel
theorem d_X_trace_62 : decode prog_1_method_17_code 62 = .ok (.goto 12, 3) := by decide +kernel
theorem d_X_trace_65 : decode prog_1_method_17_code 65 = .ok (.aload_n 0, 1) := by decide +kernel
theorem d_X_trace_66 : decode prog_1_method_17_code 66 = .ok (.getfield 21, 3) := by decide +kernel
theorem d_X_trace_69 : decode prog_1_method_17_code 69 = .ok (.iload 4, 2) := by decide +kernel
theorem d_X_trace_71 : decode prog_1_method_17_code 71 = .ok (.invokevirtual 173, 3) := by decide +kernel
theorem d_X_trace_74 : decode prog_1_method_17_code 74 = .ok (.ireturn, 1) := by decide +kernel
theorem d_XR_neededSteps_0 : decode prog_5_method_6_code 0 = .ok (.iconst 0, 1) := by decide +kernel
theorem d_XR_neededSteps_1 : decode prog_5_method_6_code 1 = .ok (.istore_n 1, 1) := by decide +kernel
theorem d_XR_neededSteps_2 : decode prog_5_method_6_code 2 = .ok (.aload_n 0, 1) := by decide +kernel
theorem d_XR_neededSteps_3 : decode prog_5_method_6_code 3 = .ok (.getfield 19, 3) := by decide +kernel
theorem d_XR_neededSteps_6 : decode prog_5_method_6_code 6 = .ok (.ifCond .le 27, 3) := by decide +kernel
theorem d_XR_neededSteps_9 : decode prog_5_method_6_code 9 = .ok (.aload_n 0, 1) := by decide +kernel
theorem d_XR_neededSteps_10 : decode prog_5_method_6_code 10 = .ok (.getfield 25, 3) := by decide +kernel
theorem d_XR_neededSteps_13 : decode prog_5_method_6_code 13 = .ok (.aload_n 0, 1) := by decide +kernel
theorem d_XR_neededSteps_14 : decode prog_5_method_6_code 14 = .ok (.getfield 9, 3) := by decide +kernel
theorem d_XR_neededSteps_17 : decode prog_5_method_6_code 17 = .ok (.aload_n 0, 1) := by decide +kernel
theorem d_XR_neededSteps_18 : decode prog_5_method_6_code 18 = .ok (.getfield 19, 3) := by decide +kernel
theorem d_XR_neededSteps_21 : decode prog_5_method_6_code 21 = .ok (.iconst 1, 1) := by decide +kernel
theorem d_XR_neededSteps_22 : decode prog_5_method_6_code 22 = .ok (.isub, 1) := by decide +kernel
theorem d_XR_neededSteps_23 : decode prog_5_method_6_code 23 = .ok (.iaload, 1) := by decide +kernel
theorem d_XR_neededSteps_24 : decode prog_5_method_6_code 24 = .ok (.invokevirtual 47, 3) := by decide +kernel
theorem d_XR_neededSteps_27 : decode prog_5_method_6_code 27 = .ok (.invokestatic 38, 3) := by decide +kernel
theorem d_XR_neededSteps_30 : decode prog_5_method_6_code 30 = .ok (.goto 4, 3) := by decide +kernel
theorem d_XR_neededSteps_33 : decode prog_5_method_6_code 33 = .ok (.iconst 0, 1) := by decide +kernel
theorem d_XR_neededSteps_34 : decode prog_5_method_6_code 34 = .ok (.istore_n 2, 1) := by decide +kernel
theorem d_XR_neededSteps_35 : decode prog_5_method_6_code 35 = .ok (.aload_n 0, 1) := by decide +kernel
theorem d_XR_neededSteps_36 : decode prog_5_method_6_code 36 = .ok (.getfield 19, 3) := by decide +kernel
theorem d_XR_neededSteps_39 : decode prog_5_method_6_code 39 = .ok (.iconst 1, 1) := by decide +kernel
theorem d_XR_neededSteps_40 : decode prog_5_method_6_code 40 = .ok (.isub, 1) := by decide +kernel
theorem d_XR_neededSteps_41 : decode prog_5_method_6_code 41 = .ok (.istore_n 3, 1) := by decide +kernel
theorem d_XR_neededSteps_42 : decode prog_5_method_6_code 42 = .ok (.iload_n 3, 1) := by decide +kernel
theorem d_XR_neededSteps_43 : decode prog_5_method_6_code 43 = .ok (.ifCond .lt 52, 3) := by decide +kernel
theorem d_XR_neededSteps_46 : decode prog_5_method_6_code 46 = .ok (.iload_n 2, 1) := by decide +kernel
theorem d_XR_neededSteps_47 : decode prog_5_method_6_code 47 = .ok (.aload_n 0, 1) := by decide +kernel
theorem d_XR_neededSteps_48 : decode prog_5_method_6_code 48 = .ok (.getfield 25, 3) := by decide +kernel
theorem d_XR_neededSteps_51 : decode prog_5_method_6_code 51 = .ok (.aload_n 0, 1) := by decide +kernel
theorem d_XR_neededSteps_52 : decode prog_5_method_6_code 52 = .ok (.getfield 9, 3) := by decide +kernel
theorem d_XR_neededSteps_55 : decode prog_5_method_6_code 55 = .ok (.iload_n 3, 1) := by decide +kernel
theorem d_XR_neededSteps_56 : decode prog_5_method_6_code 56 = .ok (.iaload, 1) := by decide +kernel
theorem d_XR_neededSteps_57 : decode prog_5_method_6_code 57 = .ok (.invokevirtual 47, 3) := by decide +kernel
theorem d_XR_neededSteps_60 : decode prog_5_method_6_code 60 = .ok (.invokestatic 50, 3) := by decide +kernel
theorem d_XR_neededSteps_63 : decode prog_5_method_6_code 63 = .ok (.ifCond .eq 26, 3) := by decide +kernel
theorem d_XR_neededSteps_66 : decode prog_5_method_6_code 66 = .ok (.iload_n 1, 1) := by decide +kernel
theorem d_XR_neededSteps_67 : decode prog_5_method_6_code 67 = .ok (.iload_n 3, 1) := by decide +kernel
theorem d_XR_neededSteps_68 : decode prog_5_method_6_code 68 = .ok (.invokestatic 38, 3) := by decide +kernel
theorem d_XR_neededSteps_71 : decode prog_5_method_6_code 71 = .ok (.ior, 1) := by decide +kernel
theorem d_XR_neededSteps_72 : decode prog_5_method_6_code 72 = .ok (.istore_n 1, 1) := by decide +kernel
theorem d_XR_neededSteps_73 : decode prog_5_method_6_code 73 = .ok (.iload_n 2, 1) := by decide +kernel
theorem d_XR_neededSteps_74 : decode prog_5_method_6_code 74 = .ok (.aload_n 0, 1) := by decide +kernel
theorem d_XR_neededSteps_75 : decode prog_5_method_6_code 75 = .ok (.getfield 25, 3) := by decide +kernel
theorem d_XR_neededSteps_78 : decode prog_5_method_6_code 78 = .ok (.aload_n 0, 1) := by decide +kernel
theorem d_XR_neededSteps_79 : decode prog_5_method_6_code 79 = .ok (.getfield 9, 3) := by decide +kernel
theorem d_XR_neededSteps_82 : decode prog_5_method_6_code 82 = .ok (.iload_n 3, 1) := by decide +kernel
theorem d_XR_neededSteps_83 : decode prog_5_method_6_code 83 = .ok (.iaload, 1) := by decide +kernel
theorem d_XR_neededSteps_84 : decode prog_5_method_6_code 84 = .ok (.invokevirtual 54, 3) := by decide +kernel
theorem d_XR_neededSteps_87 : decode prog_5_method_6_code 87 = .ok (.ior, 1) := by decide +kernel
theorem d_XR_neededSteps_88 : decode prog_5_method_6_code 88 = .ok (.istore_n 2, 1) := by decide +kernel
theorem d_XR_neededSteps_89 : decode prog_5_method_6_code 89 = .ok (.iinc 3 (-1), 3) := by decide +kernel
theorem d_XR_neededSteps_92 : decode prog_5_method_6_code 92 = .ok (.goto (-50), 3) := by decide +kernel
theorem d_XR_neededSteps_95 : decode prog_5_method_6_code 95 = .ok (.iload_n 1, 1) := by decide +kernel
theorem d_XR_neededSteps_96 : decode prog_5_method_6_code 96 = .ok (.ireturn, 1) := by decide +kernel
theorem d_XR_firedAt_0 : decode prog_5_method_4_code 0 = .ok (.iload_n 1, 1) := by decide +kernel
theorem d_XR_firedAt_1 : decode prog_5_method_4_code 1 = .ok (.ifCond .lt 20, 3) := by decide +kernel
theorem d_XR_firedAt_4 : decode prog_5_method_4_code 4 = .ok (.iload_n 1, 1) := by decide +kernel
theorem d_XR_firedAt_5 : decode prog_5_method_4_code 5 = .ok (.aload_n 0, 1) := by decide +kernel
theorem d_XR_firedAt_6 : decode prog_5_method_4_code 6 = .ok (.getfield 19, 3) := by decide +kernel
theorem d_XR_firedAt_9 : decode prog_5_method_4_code 9 = .ok (.if_icmp .ge 12, 3) := by decide +kernel
theorem d_XR_firedAt_12 : decode prog_5_method_4_code 12 = .ok (.aload_n 0, 1) := by decide +kernel
theorem d_XR_firedAt_13 : decode prog_5_method_4_code 13 = .ok (.getfield 9, 3) := by decide +kernel
theorem d_XR_firedAt_16 : decode prog_5_method_4_code 16 = .ok (.iload_n 1, 1) := by decide +kernel
theorem d_XR_firedAt_17 : decode prog_5_method_4_code 17 = .ok (.iaload, 1) := by decide +kernel
theorem d_XR_firedAt_18 : decode prog_5_method_4_code 18 = .ok (.goto 5, 3) := by decide +kernel
theorem d_XR_firedAt_21 : decode prog_5_method_4_code 21 = .ok (.bipush (-6), 2) := by decide +kernel
theorem d_XR_firedAt_23 : decode prog_5_method_4_code 23 = .ok (.ireturn, 1) := by decide +kernel
theorem d_X_count_0 : decode prog_1_method_18_code 0 = .ok (.iload_n 1, 1) := by decide +kernel
theorem d_X_count_1 : decode prog_1_method_18_code 1 = .ok (.tableswitch 113 0 6 #[43, 48, 56, 61, 66, 78, 91], 43) := by decide +kernel
theorem d_X_count_44 : decode prog_1_method_18_code 44 = .ok (.aload_n 0, 1) := by decide +kernel
theorem d_X_count_45 : decode prog_1_method_18_code 45 = .ok (.getfield 45, 3) := by decide +kernel
theorem d_X_count_48 : decode prog_1_method_18_code 48 = .ok (.ireturn, 1) := by decide +kernel
theorem d_X_count_49 : decode prog_1_method_18_code 49 = .ok (.aload_n 0, 1) := by decide +kernel
theorem d_X_count_50 : decode prog_1_method_18_code 50 = .ok (.getfield 12, 3) := by decide +kernel
theorem d_X_count_53 : decode prog_1_method_18_code 53 = .ok (.invokevirtual 176, 3) := by decide +kernel
theorem d_X_count_56 : decode prog_1_method_18_code 56 = .ok (.ireturn, 1) := by decide +kernel
theorem d_X_count_57 : decode prog_1_method_18_code 57 = .ok (.aload_n 0, 1) := by decide +kernel
theorem d_X_count_58 : decode prog_1_method_18_code 58 = .ok (.getfield 49, 3) := by decide +kernel
theorem d_X_count_61 : decode prog_1_method_18_code 61 = .ok (.ireturn, 1) := by decide +kernel
theorem d_X_count_62 : decode prog_1_method_18_code 62 = .ok (.aload_n 0, 1) := by decide +kernel
theorem d_X_count_63 : decode prog_1_method_18_code 63 = .ok (.getfield 52, 3) := by decide +kernel
theorem d_X_count_66 : decode prog_1_method_18_code 66 = .ok (.ireturn, 1) := by decide +kernel
theorem d_X_count_67 : decode prog_1_method_18_code 67 = .ok (.aload_n 0, 1) := by decide +kernel
theorem d_X_count_68 : decode prog_1_method_18_code 68 = .ok (.getfield 28, 3) := by decide +kernel
theorem d_X_count_71 : decode prog_1_method_18_code 71 = .ok (.aload_n 0, 1) := by decide +kernel
theorem d_X_count_72 : decode prog_1_method_18_code 72 = .ok (.getfield 45, 3) := by decide +kernel
theorem d_X_count_75 : decode prog_1_method_18_code 75 = .ok (.invokevirtual 106, 3) := by decide +kernel
theorem d_X_count_78 : decode prog_1_method_18_code 78 = .ok (.ireturn, 1) := by decide +kernel
theorem d_X_count_79 : decode prog_1_method_18_code 79 = .ok (.aload_n 0, 1) := by decide +kernel
theorem d_X_count_80 : decode prog_1_method_18_code 80 = .ok (.getfield 55, 3) := by decide +kernel
theorem d_X_count_83 : decode prog_1_method_18_code 83 = .ok (.ifCond .eq 7, 3) := by decide +kernel
theorem d_X_count_86 : decode prog_1_method_18_code 86 = .ok (.iconst 1, 1) := by decide +kernel
theorem d_X_count_87 : decode prog_1_method_18_code 87 = .ok (.goto 4, 3) := by decide +kernel
theorem d_X_count_90 : decode prog_1_method_18_code 90 = .ok (.iconst 0, 1) := by decide +kernel
theorem d_X_count_91 : decode prog_1_method_18_code 91 = .ok (.ireturn, 1) := by decide +kernel
theorem d_X_count_92 : decode prog_1_method_18_code 92 = .ok (.aload_n 0, 1) := by decide +kernel
theorem d_X_count_93 : decode prog_1_method_18_code 93 = .ok (.getfield 55, 3) := by decide +kernel
theorem d_X_count_96 : decode prog_1_method_18_code 96 = .ok (.ifCond .eq 16, 3) := by decide +kernel
theorem d_X_count_99 : decode prog_1_method_18_code 99 = .ok (.aload_n 0, 1) := by decide +kernel
theorem d_X_count_100 : decode prog_1_method_18_code 100 = .ok (.getfield 37, 3) := by decide +kernel
theorem d_X_count_103 : decode prog_1_method_18_code 103 = .ok (.invokevirtual 179, 3) := by decide +kernel
theorem d_X_count_106 : decode prog_1_method_18_code 106 = .ok (.invokestatic 152, 3) := by decide +kernel
theorem d_X_count_109 : decode prog_1_method_18_code 109 = .ok (.goto 4, 3) := by decide +kernel
theorem d_X_count_112 : decode prog_1_method_18_code 112 = .ok (.iconst 0, 1) := by decide +kernel
theorem d_X_count_113 : decode prog_1_method_18_code 113 = .ok (.ireturn, 1) := by decide +kernel
theorem d_X_count_114 : decode prog_1_method_18_code 114 = .ok (.bipush (-2), 2) := by decide +kernel
theorem d_X_count_116 : decode prog_1_method_18_code 116 = .ok (.ireturn, 1) := by decide +kernel
theorem d_XA_thereNow_0 : decode prog_2_method_4_code 0 = .ok (.aload_n 0, 1) := by decide +kernel
theorem d_XA_thereNow_1 : decode prog_2_method_4_code 1 = .ok (.getfield 22, 3) := by decide +kernel
theorem d_XA_thereNow_4 : decode prog_2_method_4_code 4 = .ok (.ireturn, 1) := by decide +kernel
theorem d_XO_placedClasses_0 : decode prog_4_method_2_code 0 = .ok (.aload_n 0, 1) := by decide +kernel
theorem d_XO_placedClasses_1 : decode prog_4_method_2_code 1 = .ok (.getfield 9, 3) := by decide +kernel
theorem d_XO_placedClasses_4 : decode prog_4_method_2_code 4 = .ok (.ireturn, 1) := by decide +kernel
theorem d_M_class0_0 : decode prog_7_method_15_code 0 = .ok (.aload_n 0, 1) := by decide +kernel
theorem d_M_class0_1 : decode prog_7_method_15_code 1 = .ok (.getfield 60, 3) := by decide +kernel
theorem d_M_class0_4 : decode prog_7_method_15_code 4 = .ok (.bipush 20, 2) := by decide +kernel
theorem d_M_class0_6 : decode prog_7_method_15_code 6 = .ok (.if_icmp .ne 6, 3) := by decide +kernel
theorem d_M_class0_9 : decode prog_7_method_15_code 9 = .ok (.bipush (-4), 2) := by decide +kernel
theorem d_M_class0_11 : decode prog_7_method_15_code 11 = .ok (.ireturn, 1) := by decide +kernel
theorem d_M_class0_12 : decode prog_7_method_15_code 12 = .ok (.aload_n 0, 1) := by decide +kernel
theorem d_M_class0_13 : decode prog_7_method_15_code 13 = .ok (.dup, 1) := by decide +kernel
theorem d_M_class0_14 : decode prog_7_method_15_code 14 = .ok (.getfield 60, 3) := by decide +kernel
theorem d_M_class0_17 : decode prog_7_method_15_code 17 = .ok (.iconst 1, 1) := by decide +kernel
theorem d_M_class0_18 : decode prog_7_method_15_code 18 = .ok (.iadd, 1) := by decide +kernel
theorem d_M_class0_19 : decode prog_7_method_15_code 19 = .ok (.putfield 60, 3) := by decide +kernel
theorem d_M_class0_22 : decode prog_7_method_15_code 22 = .ok (.aload_n 0, 1) := by decide +kernel
theorem d_M_class0_23 : decode prog_7_method_15_code 23 = .ok (.iconst 0, 1) := by decide +kernel
theorem d_M_class0_24 : decode prog_7_method_15_code 24 = .ok (.putfield 97, 3) := by decide +kernel
theorem d_M_class0_27 : decode prog_7_method_15_code 27 = .ok (.aload_n 0, 1) := by decide +kernel
theorem d_M_class0_28 : decode prog_7_method_15_code 28 = .ok (.invokevirtual 101, 3) := by decide +kernel
theorem d_M_class0_31 : decode prog_7_method_15_code 31 = .ok (.aload_n 0, 1) := by decide +kernel
theorem d_M_class0_32 : decode prog_7_method_15_code 32 = .ok (.getfield 60, 3) := by decide +kernel
theorem d_M_class0_35 : decode prog_7_method_15_code 35 = .ok (.iconst 1, 1) := by decide +kernel
theorem d_M_class0_36 : decode prog_7_method_15_code 36 = .ok (.isub, 1) := by decide +kernel
theorem d_M_class0_37 : decode prog_7_method_15_code 37 = .ok (.ireturn, 1) := by decide +kernel
theorem d_M_close_0 : decode prog_7_method_11_code 0 = .ok (.aload_n 0, 1) := by decide +kernel
theorem d_M_close_1 : decode prog_7_method_11_code 1 = .ok (.invokevirtual 83, 3) := by decide +kernel
theorem d_M_close_4 : decode prog_7_method_11_code 4 = .ok (.iconst 1, 1) := by decide +kernel
theorem d_M_close_5 : decode prog_7_method_11_code 5 = .ok (.istore_n 1, 1) := by decide +kernel
theorem d_M_close_6 : decode prog_7_method_11_code 6 = .ok (.iload_n 1, 1) := by decide +kernel
theorem d_M_close_7 : decode prog_7_method_11_code 7 = .ok (.ifCond .eq 11, 3) := by decide +kernel
theorem d_M_close_10 : decode prog_7_method_11_code 10 = .ok (.aload_n 0, 1) := by decide +kernel
theorem d_M_close_11 : decode prog_7_method_11_code 11 = .ok (.invokevirtual 86, 3) := by decide +kernel
theorem d_M_close_14 : decode prog_7_method_11_code 14 = .ok (.istore_n 1, 1) := by decide +kernel
theorem d_M_close_15 : decode prog_7_method_11_code 15 = .ok (.goto (-9), 3) := by decide +kernel
theorem d_M_close_18 : decode prog_7_method_11_code 18 = .ok (.return_, 1) := by decide +kernel
theorem d_M_tellItself_0 : decode prog_7_method_7_code 0 = .ok (.iconst 0, 1) := by decide +kernel
theorem d_M_tellItself_1 : decode prog_7_method_7_code 1 = .ok (.istore_n 1, 1) := by decide +kernel
theorem d_M_tellItself_2 : decode prog_7_method_7_code 2 = .ok (.iload_n 1, 1) := by decide +kernel
theorem d_M_tellItself_3 : decode prog_7_method_7_code 3 = .ok (.aload_n 0, 1) := by decide +kernel
theorem d_M_tellItself_4 : decode prog_7_method_7_code 4 = .ok (.getfield 60, 3) := by decide +kernel
theorem d_M_tellItself_7 : decode prog_7_method_7_code 7 = .ok (.if_icmp .ge 58, 3) := by decide +kernel
theorem d_M_tellItself_10 : decode prog_7_method_7_code 10 = .ok (.iconst 0, 1) := by decide +kernel
theorem d_M_tellItself_11 : decode prog_7_method_7_code 11 = .ok (.istore_n 2, 1) := by decide +kernel
theorem d_M_tellItself_12 : decode prog_7_method_7_code 12 = .ok (.iload_n 2, 1) := by decide +kernel
theorem d_M_tellItself_13 : decode prog_7_method_7_code 13 = .ok (.bipush 20, 2) := by decide +kernel
theorem d_M_tellItself_15 : decode prog_7_method_7_code 15 = .ok (.if_icmp .gt 44, 3) := by decide +kernel
theorem d_M_tellItself_18 : decode prog_7_method_7_code 18 = .ok (.iload_n 2, 1) := by decide +kernel
theorem d_M_tellItself_19 : decode prog_7_method_7_code 19 = .ok (.aload_n 0, 1) := by decide +kernel
theorem d_M_tellItself_20 : decode prog_7_method_7_code 20 = .ok (.getfield 60, 3) := by decide +kernel
theorem d_M_tellItself_23 : decode prog_7_method_7_code 23 = .ok (.if_icmp .lt 9, 3) := by decide +kernel
theorem d_M_tellItself_26 : decode prog_7_method_7_code 26 = .ok (.iload_n 2, 1) := by decide +kernel
theorem d_M_tellItself_27 : decode prog_7_method_7_code 27 = .ok (.bipush 20, 2) := by decide +kernel
theorem d_M_tellItself_29 : decode prog_7_method_7_code 29 = .ok (.if_icmp .ne 24, 3) := by decide +kernel
theorem d_M_tellItself_32 : decode prog_7_method_7_code 32 = .ok (.aload_n 0, 1) := by decide +kernel
theorem d_M_tellItself_33 : decode prog_7_method_7_code 33 = .ok (.iload_n 1, 1) := by decide +kernel
theorem d_M_tellItself_34 : decode prog_7_method_7_code 34 = .ok (.iload_n 2, 1) := by decide +kernel
theorem d_M_tellItself_35 : decode prog_7_method_7_code 35 = .ok (.invokevirtual 70, 3) := by decide +kernel
theorem d_M_tellItself_38 : decode prog_7_method_7_code 38 = .ok (.ifCond .eq 15, 3) := by decide +kernel
theorem d_M_tellItself_41 : decode prog_7_method_7_code 41 = .ok (.aload_n 0, 1) := by decide +kernel
theorem d_M_tellItself_42 : decode prog_7_method_7_code 42 = .ok (.getfield 30, 3) := by decide +kernel
theorem d_M_tellItself_45 : decode prog_7_method_7_code 45 = .ok (.bipush 21, 2) := by decide +kernel
theorem d_M_tellItself_47 : decode prog_7_method_7_code 47 = .ok (.iload_n 1, 1) := by decide +kernel
theorem d_M_tellItself_48 : decode prog_7_method_7_code 48 = .ok (.imul, 1) := by decide +kernel
theorem d_M_tellItself_49 : decode prog_7_method_7_code 49 = .ok (.iload_n 2, 1) := by decide +kernel
theorem d_M_tellItself_50 : decode prog_7_method_7_code 50 = .ok (.iadd, 1) := by decide +kernel
theorem d_M_tellItself_51 : decode prog_7_method_7_code 51 = .ok (.iconst 1, 1) := by decide +kernel
theorem d_M_tellItself_52 : decode prog_7_method_7_code 52 = .ok (.iastore, 1) := by decide +kernel
theorem d_M_tellItself_53 : decode prog_7_method_7_code 53 = .ok (.iinc 2 1, 3) := by decide +kernel
theorem d_M_tellItself_56 : decode prog_7_method_7_code 56 = .ok (.goto (-44), 3) := by decide +kernel
theorem d_M_tellItself_59 : decode prog_7_method_7_code 59 = .ok (.iinc 1 1, 3) := by decide +kernel
theorem d_M_tellItself_62 : decode prog_7_method_7_code 62 = .ok (.goto (-60), 3) := by decide +kernel
theorem d_M_tellItself_65 : decode prog_7_method_7_code 65 = .ok (.return_, 1) := by decide +kernel
theorem d_M_isItself_0 : decode prog_7_method_6_code 0 = .ok (.iload_n 1, 1) := by decide +kernel
theorem d_M_isItself_1 : decode prog_7_method_6_code 1 = .ok (.iload_n 2, 1) := by decide +kernel
theorem d_M_isItself_2 : decode prog_7_method_6_code 2 = .ok (.if_icmp .ne 7, 3) := by decide +kernel
theorem d_M_isItself_5 : decode prog_7_method_6_code 5 = .ok (.iconst 1, 1) := by decide +kernel
theorem d_M_isItself_6 : decode prog_7_method_6_code 6 = .ok (.goto 4, 3) := by decide +kernel
theorem d_M_isItself_9 : decode prog_7_method_6_code 9 = .ok (.iconst 0, 1) := by decide +kernel
theorem d_M_isItself_10 : decode prog_7_method_6_code 10 = .ok (.istore_n 3, 1) := by decide +kernel
theorem d_M_isItself_11 : decode prog_7_method_6_code 11 = .ok (.iconst 0, 1) := by decide +kernel
theorem d_M_isItself_12 : decode prog_7_method_6_code 12 = .ok (.istore 4, 2) := by decide +kernel
theorem d_M_isItself_14 : decode prog_7_method_6_code 14 = .ok (.iload 4, 2) := by decide +kernel
theorem d_M_isItself_16 : decode prog_7_method_6_code 16 = .ok (.aload_n 0, 1) := by decide +kernel
theorem d_M_isItself_17 : decode prog_7_method_6_code 17 = .ok (.getfield 67, 3) := by decide +kernel
theorem d_M_isItself_20 : decode prog_7_method_6_code 20 = .ok (.if_icmp .ge 62, 3) := by decide +kernel
theorem d_M_isItself_23 : decode prog_7_method_6_code 23 = .ok (.iload_n 3, 1) := by decide +kernel
theorem d_M_isItself_24 : decode prog_7_method_6_code 24 = .ok (.ifCond .ne 46, 3) := by decide +kernel
theorem d_M_isItself_27 : decode prog_7_method_6_code 27 = .ok (.aload_n 0, 1) := by decide +kernel
theorem d_M_isItself_28 : decode prog_7_method_6_code 28 = .ok (.getfield 23, 3) := by decide +kernel
theorem d_M_isItself_31 : decode prog_7_method_6_code 31 = .ok (.iload 4, 2) := by decide +kernel
theorem d_M_isItself_33 : decode prog_7_method_6_code 33 = .ok (.baload, 1) := by decide +kernel
theorem d_M_isItself_34 : decode prog_7_method_6_code 34 = .ok (.ifCond .eq 40, 3) := by decide +kernel
theorem d_M_isItself_37 : decode prog_7_method_6_code 37 = .ok (.aload_n 0, 1) := by decide +kernel
theorem d_M_isItself_38 : decode prog_7_method_6_code 38 = .ok (.getfield 13, 3) := by decide +kernel
theorem d_M_isItself_41 : decode prog_7_method_6_code 41 = .ok (.iload 4, 2) := by decide +kernel
theorem d_M_isItself_43 : decode prog_7_method_6_code 43 = .ok (.iaload, 1) := by decide +kernel
theorem d_M_isItself_44 : decode prog_7_method_6_code 44 = .ok (.iload_n 1, 1) := by decide +kernel
theorem d_M_isItself_45 : decode prog_7_method_6_code 45 = .ok (.if_icmp .ne 29, 3) := by decide +kernel
theorem d_M_isItself_48 : decode prog_7_method_6_code 48 = .ok (.aload_n 0, 1) := by decide +kernel
theorem d_M_isItself_49 : decode prog_7_method_6_code 49 = .ok (.getfield 17, 3) := by decide +kernel
theorem d_M_isItself_52 : decode prog_7_method_6_code 52 = .ok (.iload 4, 2) := by decide +kernel
theorem d_M_isItself_54 : decode prog_7_method_6_code 54 = .ok (.iaload, 1) := by decide +kernel
theorem d_M_isItself_55 : decode prog_7_method_6_code 55 = .ok (.iconst (-1), 1) := by decide +kernel
theorem d_M_isItself_56 : decode prog_7_method_6_code 56 = .ok (.if_icmp .ne 18, 3) := by decide +kernel
theorem d_M_isItself_59 : decode prog_7_method_6_code 59 = .ok (.aload_n 0, 1) := by decide +kernel
theorem d_M_isItself_60 : decode prog_7_method_6_code 60 = .ok (.getfield 20, 3) := by decide +kernel
theorem d_M_isItself_63 : decode prog_7_method_6_code 63 = .ok (.iload 4, 2) := by decide +kernel
theorem d_M_isItself_65 : decode prog_7_method_6_code 65 = .ok (.iaload, 1) := by decide +kernel
theorem d_M_isItself_66 : decode prog_7_method_6_code 66 = .ok (.iload_n 2, 1) := by decide +kernel
theorem d_M_isItself_67 : decode prog_7_method_6_code 67 = .ok (.if_icmp .ne 7, 3) := by decide +kernel
theorem d_M_isItself_70 : decode prog_7_method_6_code 70 = .ok (.iconst 1, 1) := by decide +kernel
theorem d_M_isItself_71 : decode prog_7_method_6_code 71 = .ok (.goto 4, 3) := by decide +kernel
theorem d_M_isItself_74 : decode prog_7_method_6_code 74 = .ok (.iconst 0, 1) := by decide +kernel
theorem d_M_isItself_75 : decode prog_7_method_6_code 75 = .ok (.istore_n 3, 1) := by decide +kernel
end
section
theorem d_M_isItself_76 : decode prog_7_method_6_code 76 = .ok (.iinc 4 1, 3) := by decide +kernel
theorem d_M_isItself_79 : decode prog_7_method_6_code 79 = .ok (.goto (-65), 3) := by decide +kernel
theorem d_M_isItself_82 : decode prog_7_method_6_code 82 = .ok (.iload_n 3, 1) := by decide +kernel
theorem d_M_isItself_83 : decode prog_7_method_6_code 83 = .ok (.ireturn, 1) := by decide +kernel
theorem d_M_closeOnce_0 : decode prog_7_method_9_code 0 = .ok (.iconst 0, 1) := by decide +kernel
theorem d_M_closeOnce_1 : decode prog_7_method_9_code 1 = .ok (.istore_n 1, 1) := by decide +kernel
theorem d_M_closeOnce_2 : decode prog_7_method_9_code 2 = .ok (.iconst 0, 1) := by decide +kernel
theorem d_M_closeOnce_3 : decode prog_7_method_9_code 3 = .ok (.istore_n 2, 1) := by decide +kernel
theorem d_M_closeOnce_4 : decode prog_7_method_9_code 4 = .ok (.iload_n 2, 1) := by decide +kernel
theorem d_M_closeOnce_5 : decode prog_7_method_9_code 5 = .ok (.aload_n 0, 1) := by decide +kernel
theorem d_M_closeOnce_6 : decode prog_7_method_9_code 6 = .ok (.getfield 60, 3) := by decide +kernel
theorem d_M_closeOnce_9 : decode prog_7_method_9_code 9 = .ok (.if_icmp .ge 106, 3) := by decide +kernel
theorem d_M_closeOnce_12 : decode prog_7_method_9_code 12 = .ok (.iconst 0, 1) := by decide +kernel
theorem d_M_closeOnce_13 : decode prog_7_method_9_code 13 = .ok (.istore_n 3, 1) := by decide +kernel
theorem d_M_closeOnce_14 : decode prog_7_method_9_code 14 = .ok (.iload_n 3, 1) := by decide +kernel
theorem d_M_closeOnce_15 : decode prog_7_method_9_code 15 = .ok (.bipush 20, 2) := by decide +kernel
theorem d_M_closeOnce_17 : decode prog_7_method_9_code 17 = .ok (.if_icmp .gt 92, 3) := by decide +kernel
theorem d_M_closeOnce_20 : decode prog_7_method_9_code 20 = .ok (.aload_n 0, 1) := by decide +kernel
theorem d_M_closeOnce_21 : decode prog_7_method_9_code 21 = .ok (.iload_n 3, 1) := by decide +kernel
theorem d_M_closeOnce_22 : decode prog_7_method_9_code 22 = .ok (.invokevirtual 74, 3) := by decide +kernel
theorem d_M_closeOnce_25 : decode prog_7_method_9_code 25 = .ok (.ifCond .eq 78, 3) := by decide +kernel
theorem d_M_closeOnce_28 : decode prog_7_method_9_code 28 = .ok (.aload_n 0, 1) := by decide +kernel
theorem d_M_closeOnce_29 : decode prog_7_method_9_code 29 = .ok (.iload_n 2, 1) := by decide +kernel
theorem d_M_closeOnce_30 : decode prog_7_method_9_code 30 = .ok (.iload_n 3, 1) := by decide +kernel
theorem d_M_closeOnce_31 : decode prog_7_method_9_code 31 = .ok (.invokevirtual 77, 3) := by decide +kernel
theorem d_M_closeOnce_34 : decode prog_7_method_9_code 34 = .ok (.ifCond .eq 69, 3) := by decide +kernel
theorem d_M_closeOnce_37 : decode prog_7_method_9_code 37 = .ok (.iconst 0, 1) := by decide +kernel
theorem d_M_closeOnce_38 : decode prog_7_method_9_code 38 = .ok (.istore 4, 2) := by decide +kernel
theorem d_M_closeOnce_40 : decode prog_7_method_9_code 40 = .ok (.iload 4, 2) := by decide +kernel
theorem d_M_closeOnce_42 : decode prog_7_method_9_code 42 = .ok (.bipush 20, 2) := by decide +kernel
theorem d_M_closeOnce_44 : decode prog_7_method_9_code 44 = .ok (.if_icmp .gt 59, 3) := by decide +kernel
theorem d_M_closeOnce_47 : decode prog_7_method_9_code 47 = .ok (.aload_n 0, 1) := by decide +kernel
theorem d_M_closeOnce_48 : decode prog_7_method_9_code 48 = .ok (.iload 4, 2) := by decide +kernel
theorem d_M_closeOnce_50 : decode prog_7_method_9_code 50 = .ok (.invokevirtual 74, 3) := by decide +kernel
theorem d_M_closeOnce_53 : decode prog_7_method_9_code 53 = .ok (.ifCond .eq 44, 3) := by decide +kernel
theorem d_M_closeOnce_56 : decode prog_7_method_9_code 56 = .ok (.aload_n 0, 1) := by decide +kernel
theorem d_M_closeOnce_57 : decode prog_7_method_9_code 57 = .ok (.iload_n 3, 1) := by decide +kernel
theorem d_M_closeOnce_58 : decode prog_7_method_9_code 58 = .ok (.iload 4, 2) := by decide +kernel
theorem d_M_closeOnce_60 : decode prog_7_method_9_code 60 = .ok (.invokevirtual 77, 3) := by decide +kernel
theorem d_M_closeOnce_63 : decode prog_7_method_9_code 63 = .ok (.ifCond .eq 34, 3) := by decide +kernel
theorem d_M_closeOnce_66 : decode prog_7_method_9_code 66 = .ok (.aload_n 0, 1) := by decide +kernel
theorem d_M_closeOnce_67 : decode prog_7_method_9_code 67 = .ok (.getfield 30, 3) := by decide +kernel
theorem d_M_closeOnce_70 : decode prog_7_method_9_code 70 = .ok (.bipush 21, 2) := by decide +kernel
theorem d_M_closeOnce_72 : decode prog_7_method_9_code 72 = .ok (.iload_n 2, 1) := by decide +kernel
theorem d_M_closeOnce_73 : decode prog_7_method_9_code 73 = .ok (.imul, 1) := by decide +kernel
theorem d_M_closeOnce_74 : decode prog_7_method_9_code 74 = .ok (.iload 4, 2) := by decide +kernel
theorem d_M_closeOnce_76 : decode prog_7_method_9_code 76 = .ok (.iadd, 1) := by decide +kernel
theorem d_M_closeOnce_77 : decode prog_7_method_9_code 77 = .ok (.iaload, 1) := by decide +kernel
theorem d_M_closeOnce_78 : decode prog_7_method_9_code 78 = .ok (.iconst 1, 1) := by decide +kernel
theorem d_M_closeOnce_79 : decode prog_7_method_9_code 79 = .ok (.if_icmp .eq 18, 3) := by decide +kernel
theorem d_M_closeOnce_82 : decode prog_7_method_9_code 82 = .ok (.aload_n 0, 1) := by decide +kernel
theorem d_M_closeOnce_83 : decode prog_7_method_9_code 83 = .ok (.getfield 30, 3) := by decide +kernel
theorem d_M_closeOnce_86 : decode prog_7_method_9_code 86 = .ok (.bipush 21, 2) := by decide +kernel
theorem d_M_closeOnce_88 : decode prog_7_method_9_code 88 = .ok (.iload_n 2, 1) := by decide +kernel
theorem d_M_closeOnce_89 : decode prog_7_method_9_code 89 = .ok (.imul, 1) := by decide +kernel
theorem d_M_closeOnce_90 : decode prog_7_method_9_code 90 = .ok (.iload 4, 2) := by decide +kernel
theorem d_M_closeOnce_92 : decode prog_7_method_9_code 92 = .ok (.iadd, 1) := by decide +kernel
theorem d_M_closeOnce_93 : decode prog_7_method_9_code 93 = .ok (.iconst 1, 1) := by decide +kernel
theorem d_M_closeOnce_94 : decode prog_7_method_9_code 94 = .ok (.iastore, 1) := by decide +kernel
theorem d_M_closeOnce_95 : decode prog_7_method_9_code 95 = .ok (.iconst 1, 1) := by decide +kernel
theorem d_M_closeOnce_96 : decode prog_7_method_9_code 96 = .ok (.istore_n 1, 1) := by decide +kernel
theorem d_M_closeOnce_97 : decode prog_7_method_9_code 97 = .ok (.iinc 4 1, 3) := by decide +kernel
theorem d_M_closeOnce_100 : decode prog_7_method_9_code 100 = .ok (.goto (-60), 3) := by decide +kernel
theorem d_M_closeOnce_103 : decode prog_7_method_9_code 103 = .ok (.iinc 3 1, 3) := by decide +kernel
theorem d_M_closeOnce_106 : decode prog_7_method_9_code 106 = .ok (.goto (-92), 3) := by decide +kernel
theorem d_M_closeOnce_109 : decode prog_7_method_9_code 109 = .ok (.iinc 2 1, 3) := by decide +kernel
theorem d_M_closeOnce_112 : decode prog_7_method_9_code 112 = .ok (.goto (-108), 3) := by decide +kernel
theorem d_M_closeOnce_115 : decode prog_7_method_9_code 115 = .ok (.iconst 0, 1) := by decide +kernel
theorem d_M_closeOnce_116 : decode prog_7_method_9_code 116 = .ok (.istore_n 2, 1) := by decide +kernel
theorem d_M_closeOnce_117 : decode prog_7_method_9_code 117 = .ok (.iload_n 2, 1) := by decide +kernel
theorem d_M_closeOnce_118 : decode prog_7_method_9_code 118 = .ok (.aload_n 0, 1) := by decide +kernel
theorem d_M_closeOnce_119 : decode prog_7_method_9_code 119 = .ok (.getfield 60, 3) := by decide +kernel
theorem d_M_closeOnce_122 : decode prog_7_method_9_code 122 = .ok (.if_icmp .ge 64, 3) := by decide +kernel
theorem d_M_closeOnce_125 : decode prog_7_method_9_code 125 = .ok (.iconst 0, 1) := by decide +kernel
theorem d_M_closeOnce_126 : decode prog_7_method_9_code 126 = .ok (.istore_n 3, 1) := by decide +kernel
theorem d_M_closeOnce_127 : decode prog_7_method_9_code 127 = .ok (.iload_n 3, 1) := by decide +kernel
theorem d_M_closeOnce_128 : decode prog_7_method_9_code 128 = .ok (.bipush 20, 2) := by decide +kernel
theorem d_M_closeOnce_130 : decode prog_7_method_9_code 130 = .ok (.if_icmp .gt 50, 3) := by decide +kernel
theorem d_M_closeOnce_133 : decode prog_7_method_9_code 133 = .ok (.aload_n 0, 1) := by decide +kernel
theorem d_M_closeOnce_134 : decode prog_7_method_9_code 134 = .ok (.iload_n 3, 1) := by decide +kernel
theorem d_M_closeOnce_135 : decode prog_7_method_9_code 135 = .ok (.invokevirtual 74, 3) := by decide +kernel
theorem d_M_closeOnce_138 : decode prog_7_method_9_code 138 = .ok (.ifCond .eq 36, 3) := by decide +kernel
theorem d_M_closeOnce_141 : decode prog_7_method_9_code 141 = .ok (.aload_n 0, 1) := by decide +kernel
theorem d_M_closeOnce_142 : decode prog_7_method_9_code 142 = .ok (.getfield 30, 3) := by decide +kernel
theorem d_M_closeOnce_145 : decode prog_7_method_9_code 145 = .ok (.bipush 21, 2) := by decide +kernel
theorem d_M_closeOnce_147 : decode prog_7_method_9_code 147 = .ok (.iload_n 2, 1) := by decide +kernel
theorem d_M_closeOnce_148 : decode prog_7_method_9_code 148 = .ok (.imul, 1) := by decide +kernel
theorem d_M_closeOnce_149 : decode prog_7_method_9_code 149 = .ok (.iload_n 3, 1) := by decide +kernel
theorem d_M_closeOnce_150 : decode prog_7_method_9_code 150 = .ok (.iadd, 1) := by decide +kernel
theorem d_M_closeOnce_151 : decode prog_7_method_9_code 151 = .ok (.iaload, 1) := by decide +kernel
theorem d_M_closeOnce_152 : decode prog_7_method_9_code 152 = .ok (.ifCond .ne 22, 3) := by decide +kernel
theorem d_M_closeOnce_155 : decode prog_7_method_9_code 155 = .ok (.aload_n 0, 1) := by decide +kernel
theorem d_M_closeOnce_156 : decode prog_7_method_9_code 156 = .ok (.iload_n 2, 1) := by decide +kernel
theorem d_M_closeOnce_157 : decode prog_7_method_9_code 157 = .ok (.iload_n 3, 1) := by decide +kernel
theorem d_M_closeOnce_158 : decode prog_7_method_9_code 158 = .ok (.invokevirtual 80, 3) := by decide +kernel
theorem d_M_closeOnce_161 : decode prog_7_method_9_code 161 = .ok (.ifCond .ne 7, 3) := by decide +kernel
theorem d_M_closeOnce_164 : decode prog_7_method_9_code 164 = .ok (.iload_n 1, 1) := by decide +kernel
theorem d_M_closeOnce_165 : decode prog_7_method_9_code 165 = .ok (.ifCond .eq 7, 3) := by decide +kernel
theorem d_M_closeOnce_168 : decode prog_7_method_9_code 168 = .ok (.iconst 1, 1) := by decide +kernel
theorem d_M_closeOnce_169 : decode prog_7_method_9_code 169 = .ok (.goto 4, 3) := by decide +kernel
theorem d_M_closeOnce_172 : decode prog_7_method_9_code 172 = .ok (.iconst 0, 1) := by decide +kernel
theorem d_M_closeOnce_173 : decode prog_7_method_9_code 173 = .ok (.istore_n 1, 1) := by decide +kernel
theorem d_M_closeOnce_174 : decode prog_7_method_9_code 174 = .ok (.iinc 3 1, 3) := by decide +kernel
theorem d_M_closeOnce_177 : decode prog_7_method_9_code 177 = .ok (.goto (-50), 3) := by decide +kernel
theorem d_M_closeOnce_180 : decode prog_7_method_9_code 180 = .ok (.iinc 2 1, 3) := by decide +kernel
theorem d_M_closeOnce_183 : decode prog_7_method_9_code 183 = .ok (.goto (-66), 3) := by decide +kernel
theorem d_M_closeOnce_186 : decode prog_7_method_9_code 186 = .ok (.iload_n 1, 1) := by decide +kernel
theorem d_M_closeOnce_187 : decode prog_7_method_9_code 187 = .ok (.ireturn, 1) := by decide +kernel
theorem d_M_isHere_0 : decode prog_7_method_8_code 0 = .ok (.iload_n 1, 1) := by decide +kernel
theorem d_M_isHere_1 : decode prog_7_method_8_code 1 = .ok (.aload_n 0, 1) := by decide +kernel
theorem d_M_isHere_2 : decode prog_7_method_8_code 2 = .ok (.getfield 60, 3) := by decide +kernel
theorem d_M_isHere_5 : decode prog_7_method_8_code 5 = .ok (.if_icmp .lt 9, 3) := by decide +kernel
theorem d_M_isHere_8 : decode prog_7_method_8_code 8 = .ok (.iload_n 1, 1) := by decide +kernel
theorem d_M_isHere_9 : decode prog_7_method_8_code 9 = .ok (.bipush 20, 2) := by decide +kernel
theorem d_M_isHere_11 : decode prog_7_method_8_code 11 = .ok (.if_icmp .ne 7, 3) := by decide +kernel
theorem d_M_isHere_14 : decode prog_7_method_8_code 14 = .ok (.iconst 1, 1) := by decide +kernel
theorem d_M_isHere_15 : decode prog_7_method_8_code 15 = .ok (.goto 4, 3) := by decide +kernel
theorem d_M_isHere_18 : decode prog_7_method_8_code 18 = .ok (.iconst 0, 1) := by decide +kernel
theorem d_M_isHere_19 : decode prog_7_method_8_code 19 = .ok (.ireturn, 1) := by decide +kernel
theorem d_M_below_0 : decode prog_7_method_5_code 0 = .ok (.iload_n 1, 1) := by decide +kernel
theorem d_M_below_1 : decode prog_7_method_5_code 1 = .ok (.bipush 20, 2) := by decide +kernel
theorem d_M_below_3 : decode prog_7_method_5_code 3 = .ok (.if_icmp .eq 18, 3) := by decide +kernel
theorem d_M_below_6 : decode prog_7_method_5_code 6 = .ok (.aload_n 0, 1) := by decide +kernel
theorem d_M_below_7 : decode prog_7_method_5_code 7 = .ok (.getfield 30, 3) := by decide +kernel
theorem d_M_below_10 : decode prog_7_method_5_code 10 = .ok (.bipush 21, 2) := by decide +kernel
theorem d_M_below_12 : decode prog_7_method_5_code 12 = .ok (.iload_n 1, 1) := by decide +kernel
theorem d_M_below_13 : decode prog_7_method_5_code 13 = .ok (.imul, 1) := by decide +kernel
theorem d_M_below_14 : decode prog_7_method_5_code 14 = .ok (.iload_n 2, 1) := by decide +kernel
theorem d_M_below_15 : decode prog_7_method_5_code 15 = .ok (.iadd, 1) := by decide +kernel
theorem d_M_below_16 : decode prog_7_method_5_code 16 = .ok (.iaload, 1) := by decide +kernel
theorem d_M_below_17 : decode prog_7_method_5_code 17 = .ok (.iconst 1, 1) := by decide +kernel
theorem d_M_below_18 : decode prog_7_method_5_code 18 = .ok (.if_icmp .ne 7, 3) := by decide +kernel
theorem d_M_below_21 : decode prog_7_method_5_code 21 = .ok (.iconst 1, 1) := by decide +kernel
theorem d_M_below_22 : decode prog_7_method_5_code 22 = .ok (.goto 4, 3) := by decide +kernel
theorem d_M_below_25 : decode prog_7_method_5_code 25 = .ok (.iconst 0, 1) := by decide +kernel
theorem d_M_below_26 : decode prog_7_method_5_code 26 = .ok (.ireturn, 1) := by decide +kernel
theorem d_M_spreadNo_0 : decode prog_7_method_10_code 0 = .ok (.iconst 0, 1) := by decide +kernel
theorem d_M_spreadNo_1 : decode prog_7_method_10_code 1 = .ok (.istore_n 3, 1) := by decide +kernel
theorem d_M_spreadNo_2 : decode prog_7_method_10_code 2 = .ok (.iconst 0, 1) := by decide +kernel
theorem d_M_spreadNo_3 : decode prog_7_method_10_code 3 = .ok (.istore 4, 2) := by decide +kernel
theorem d_M_spreadNo_5 : decode prog_7_method_10_code 5 = .ok (.iload 4, 2) := by decide +kernel
theorem d_M_spreadNo_7 : decode prog_7_method_10_code 7 = .ok (.aload_n 0, 1) := by decide +kernel
theorem d_M_spreadNo_8 : decode prog_7_method_10_code 8 = .ok (.getfield 60, 3) := by decide +kernel
theorem d_M_spreadNo_11 : decode prog_7_method_10_code 11 = .ok (.if_icmp .ge 96, 3) := by decide +kernel
theorem d_M_spreadNo_14 : decode prog_7_method_10_code 14 = .ok (.aload_n 0, 1) := by decide +kernel
theorem d_M_spreadNo_15 : decode prog_7_method_10_code 15 = .ok (.iload_n 1, 1) := by decide +kernel
theorem d_M_spreadNo_16 : decode prog_7_method_10_code 16 = .ok (.iload 4, 2) := by decide +kernel
theorem d_M_spreadNo_18 : decode prog_7_method_10_code 18 = .ok (.invokevirtual 77, 3) := by decide +kernel
theorem d_M_spreadNo_21 : decode prog_7_method_10_code 21 = .ok (.ifCond .eq 80, 3) := by decide +kernel
theorem d_M_spreadNo_24 : decode prog_7_method_10_code 24 = .ok (.iconst 0, 1) := by decide +kernel
theorem d_M_spreadNo_25 : decode prog_7_method_10_code 25 = .ok (.istore 5, 2) := by decide +kernel
theorem d_M_spreadNo_27 : decode prog_7_method_10_code 27 = .ok (.iload 5, 2) := by decide +kernel
theorem d_M_spreadNo_29 : decode prog_7_method_10_code 29 = .ok (.bipush 20, 2) := by decide +kernel
theorem d_M_spreadNo_31 : decode prog_7_method_10_code 31 = .ok (.if_icmp .gt 70, 3) := by decide +kernel
theorem d_M_spreadNo_34 : decode prog_7_method_10_code 34 = .ok (.aload_n 0, 1) := by decide +kernel
theorem d_M_spreadNo_35 : decode prog_7_method_10_code 35 = .ok (.getfield 30, 3) := by decide +kernel
theorem d_M_spreadNo_38 : decode prog_7_method_10_code 38 = .ok (.bipush 21, 2) := by decide +kernel
theorem d_M_spreadNo_40 : decode prog_7_method_10_code 40 = .ok (.iload 4, 2) := by decide +kernel
theorem d_M_spreadNo_42 : decode prog_7_method_10_code 42 = .ok (.imul, 1) := by decide +kernel
theorem d_M_spreadNo_43 : decode prog_7_method_10_code 43 = .ok (.iload 5, 2) := by decide +kernel
theorem d_M_spreadNo_45 : decode prog_7_method_10_code 45 = .ok (.iadd, 1) := by decide +kernel
theorem d_M_spreadNo_46 : decode prog_7_method_10_code 46 = .ok (.iaload, 1) := by decide +kernel
theorem d_M_spreadNo_47 : decode prog_7_method_10_code 47 = .ok (.istore 6, 2) := by decide +kernel
theorem d_M_spreadNo_49 : decode prog_7_method_10_code 49 = .ok (.aload_n 0, 1) := by decide +kernel
theorem d_M_spreadNo_50 : decode prog_7_method_10_code 50 = .ok (.iload 5, 2) := by decide +kernel
theorem d_M_spreadNo_52 : decode prog_7_method_10_code 52 = .ok (.invokevirtual 74, 3) := by decide +kernel
theorem d_M_spreadNo_55 : decode prog_7_method_10_code 55 = .ok (.ifCond .eq 40, 3) := by decide +kernel
theorem d_M_spreadNo_58 : decode prog_7_method_10_code 58 = .ok (.aload_n 0, 1) := by decide +kernel
theorem d_M_spreadNo_59 : decode prog_7_method_10_code 59 = .ok (.iload 5, 2) := by decide +kernel
theorem d_M_spreadNo_61 : decode prog_7_method_10_code 61 = .ok (.iload_n 2, 1) := by decide +kernel
theorem d_M_spreadNo_62 : decode prog_7_method_10_code 62 = .ok (.invokevirtual 77, 3) := by decide +kernel
theorem d_M_spreadNo_65 : decode prog_7_method_10_code 65 = .ok (.ifCond .eq 30, 3) := by decide +kernel
theorem d_M_spreadNo_68 : decode prog_7_method_10_code 68 = .ok (.iload 6, 2) := by decide +kernel
theorem d_M_spreadNo_70 : decode prog_7_method_10_code 70 = .ok (.ifCond .eq 25, 3) := by decide +kernel
theorem d_M_spreadNo_73 : decode prog_7_method_10_code 73 = .ok (.iload 6, 2) := by decide +kernel
theorem d_M_spreadNo_75 : decode prog_7_method_10_code 75 = .ok (.iconst 1, 1) := by decide +kernel
theorem d_M_spreadNo_76 : decode prog_7_method_10_code 76 = .ok (.if_icmp .eq 19, 3) := by decide +kernel
theorem d_M_spreadNo_79 : decode prog_7_method_10_code 79 = .ok (.aload_n 0, 1) := by decide +kernel
theorem d_M_spreadNo_80 : decode prog_7_method_10_code 80 = .ok (.getfield 30, 3) := by decide +kernel
theorem d_M_spreadNo_83 : decode prog_7_method_10_code 83 = .ok (.bipush 21, 2) := by decide +kernel
theorem d_M_spreadNo_85 : decode prog_7_method_10_code 85 = .ok (.iload 4, 2) := by decide +kernel
theorem d_M_spreadNo_87 : decode prog_7_method_10_code 87 = .ok (.imul, 1) := by decide +kernel
theorem d_M_spreadNo_88 : decode prog_7_method_10_code 88 = .ok (.iload 5, 2) := by decide +kernel
theorem d_M_spreadNo_90 : decode prog_7_method_10_code 90 = .ok (.iadd, 1) := by decide +kernel
theorem d_M_spreadNo_91 : decode prog_7_method_10_code 91 = .ok (.iconst 0, 1) := by decide +kernel
theorem d_M_spreadNo_92 : decode prog_7_method_10_code 92 = .ok (.iastore, 1) := by decide +kernel
theorem d_M_spreadNo_93 : decode prog_7_method_10_code 93 = .ok (.iconst 1, 1) := by decide +kernel
theorem d_M_spreadNo_94 : decode prog_7_method_10_code 94 = .ok (.istore_n 3, 1) := by decide +kernel
theorem d_M_spreadNo_95 : decode prog_7_method_10_code 95 = .ok (.iinc 5 1, 3) := by decide +kernel
theorem d_M_spreadNo_98 : decode prog_7_method_10_code 98 = .ok (.goto (-71), 3) := by decide +kernel
theorem d_M_spreadNo_101 : decode prog_7_method_10_code 101 = .ok (.iinc 4 1, 3) := by decide +kernel
theorem d_M_spreadNo_104 : decode prog_7_method_10_code 104 = .ok (.goto (-99), 3) := by decide +kernel
theorem d_M_spreadNo_107 : decode prog_7_method_10_code 107 = .ok (.iload_n 3, 1) := by decide +kernel
theorem d_M_spreadNo_108 : decode prog_7_method_10_code 108 = .ok (.ireturn, 1) := by decide +kernel
theorem d_M_thing_0 : decode prog_7_method_16_code 0 = .ok (.aload_n 0, 1) := by decide +kernel
theorem d_M_thing_1 : decode prog_7_method_16_code 1 = .ok (.getfield 104, 3) := by decide +kernel
theorem d_M_thing_4 : decode prog_7_method_16_code 4 = .ok (.bipush 8, 2) := by decide +kernel
theorem d_M_thing_6 : decode prog_7_method_16_code 6 = .ok (.if_icmp .ne 6, 3) := by decide +kernel
theorem d_M_thing_9 : decode prog_7_method_16_code 9 = .ok (.bipush (-4), 2) := by decide +kernel
theorem d_M_thing_11 : decode prog_7_method_16_code 11 = .ok (.ireturn, 1) := by decide +kernel
theorem d_M_thing_12 : decode prog_7_method_16_code 12 = .ok (.aload_n 0, 1) := by decide +kernel
theorem d_M_thing_13 : decode prog_7_method_16_code 13 = .ok (.dup, 1) := by decide +kernel
theorem d_M_thing_14 : decode prog_7_method_16_code 14 = .ok (.getfield 104, 3) := by decide +kernel
theorem d_M_thing_17 : decode prog_7_method_16_code 17 = .ok (.iconst 1, 1) := by decide +kernel
theorem d_M_thing_18 : decode prog_7_method_16_code 18 = .ok (.iadd, 1) := by decide +kernel
theorem d_M_thing_19 : decode prog_7_method_16_code 19 = .ok (.putfield 104, 3) := by decide +kernel
theorem d_M_thing_22 : decode prog_7_method_16_code 22 = .ok (.aload_n 0, 1) := by decide +kernel
theorem d_M_thing_23 : decode prog_7_method_16_code 23 = .ok (.getfield 104, 3) := by decide +kernel
theorem d_M_thing_26 : decode prog_7_method_16_code 26 = .ok (.iconst 1, 1) := by decide +kernel
theorem d_M_thing_27 : decode prog_7_method_16_code 27 = .ok (.isub, 1) := by decide +kernel
theorem d_M_thing_28 : decode prog_7_method_16_code 28 = .ok (.ireturn, 1) := by decide +kernel
theorem d_M_axiom_0 : decode prog_7_method_19_code 0 = .ok (.aload_n 0, 1) := by decide +kernel
theorem d_M_axiom_1 : decode prog_7_method_19_code 1 = .ok (.iload_n 1, 1) := by decide +kernel
theorem d_M_axiom_2 : decode prog_7_method_19_code 2 = .ok (.invokevirtual 63, 3) := by decide +kernel
theorem d_M_axiom_5 : decode prog_7_method_19_code 5 = .ok (.ifCond .eq 29, 3) := by decide +kernel
theorem d_M_axiom_8 : decode prog_7_method_19_code 8 = .ok (.iload_n 2, 1) := by decide +kernel
theorem d_M_axiom_9 : decode prog_7_method_19_code 9 = .ok (.iconst (-1), 1) := by decide +kernel
theorem d_M_axiom_10 : decode prog_7_method_19_code 10 = .ok (.if_icmp .eq 11, 3) := by decide +kernel
theorem d_M_axiom_13 : decode prog_7_method_19_code 13 = .ok (.aload_n 0, 1) := by decide +kernel
theorem d_M_axiom_14 : decode prog_7_method_19_code 14 = .ok (.iload_n 2, 1) := by decide +kernel
theorem d_M_axiom_15 : decode prog_7_method_19_code 15 = .ok (.invokevirtual 63, 3) := by decide +kernel
theorem d_M_axiom_18 : decode prog_7_method_19_code 18 = .ok (.ifCond .eq 16, 3) := by decide +kernel
theorem d_M_axiom_21 : decode prog_7_method_19_code 21 = .ok (.iload_n 3, 1) := by decide +kernel
theorem d_M_axiom_22 : decode prog_7_method_19_code 22 = .ok (.iconst (-1), 1) := by decide +kernel
theorem d_M_axiom_23 : decode prog_7_method_19_code 23 = .ok (.if_icmp .eq 13, 3) := by decide +kernel
theorem d_M_axiom_26 : decode prog_7_method_19_code 26 = .ok (.aload_n 0, 1) := by decide +kernel
theorem d_M_axiom_27 : decode prog_7_method_19_code 27 = .ok (.iload_n 3, 1) := by decide +kernel
theorem d_M_axiom_28 : decode prog_7_method_19_code 28 = .ok (.invokevirtual 63, 3) := by decide +kernel
theorem d_M_axiom_31 : decode prog_7_method_19_code 31 = .ok (.ifCond .ne 5, 3) := by decide +kernel
theorem d_M_axiom_34 : decode prog_7_method_19_code 34 = .ok (.iconst (-1), 1) := by decide +kernel
theorem d_M_axiom_35 : decode prog_7_method_19_code 35 = .ok (.ireturn, 1) := by decide +kernel
theorem d_M_axiom_36 : decode prog_7_method_19_code 36 = .ok (.iload_n 2, 1) := by decide +kernel
theorem d_M_axiom_37 : decode prog_7_method_19_code 37 = .ok (.iload_n 1, 1) := by decide +kernel
theorem d_M_axiom_38 : decode prog_7_method_19_code 38 = .ok (.if_icmp .ne 6, 3) := by decide +kernel
theorem d_M_axiom_41 : decode prog_7_method_19_code 41 = .ok (.bipush (-2), 2) := by decide +kernel
theorem d_M_axiom_43 : decode prog_7_method_19_code 43 = .ok (.ireturn, 1) := by decide +kernel
theorem d_M_axiom_44 : decode prog_7_method_19_code 44 = .ok (.aload_n 0, 1) := by decide +kernel
theorem d_M_axiom_45 : decode prog_7_method_19_code 45 = .ok (.getfield 67, 3) := by decide +kernel
theorem d_M_axiom_48 : decode prog_7_method_19_code 48 = .ok (.bipush 40, 2) := by decide +kernel
theorem d_M_axiom_50 : decode prog_7_method_19_code 50 = .ok (.if_icmp .ne 6, 3) := by decide +kernel
theorem d_M_axiom_53 : decode prog_7_method_19_code 53 = .ok (.bipush (-4), 2) := by decide +kernel
theorem d_M_axiom_55 : decode prog_7_method_19_code 55 = .ok (.ireturn, 1) := by decide +kernel
theorem d_M_axiom_56 : decode prog_7_method_19_code 56 = .ok (.aload_n 0, 1) := by decide +kernel
theorem d_M_axiom_57 : decode prog_7_method_19_code 57 = .ok (.getfield 13, 3) := by decide +kernel
theorem d_M_axiom_60 : decode prog_7_method_19_code 60 = .ok (.aload_n 0, 1) := by decide +kernel
theorem d_M_axiom_61 : decode prog_7_method_19_code 61 = .ok (.getfield 67, 3) := by decide +kernel
theorem d_M_axiom_64 : decode prog_7_method_19_code 64 = .ok (.iload_n 1, 1) := by decide +kernel
theorem d_M_axiom_65 : decode prog_7_method_19_code 65 = .ok (.iastore, 1) := by decide +kernel
theorem d_M_axiom_66 : decode prog_7_method_19_code 66 = .ok (.aload_n 0, 1) := by decide +kernel
theorem d_M_axiom_67 : decode prog_7_method_19_code 67 = .ok (.getfield 17, 3) := by decide +kernel
theorem d_M_axiom_70 : decode prog_7_method_19_code 70 = .ok (.aload_n 0, 1) := by decide +kernel
theorem d_M_axiom_71 : decode prog_7_method_19_code 71 = .ok (.getfield 67, 3) := by decide +kernel
theorem d_M_axiom_74 : decode prog_7_method_19_code 74 = .ok (.iload_n 2, 1) := by decide +kernel
theorem d_M_axiom_75 : decode prog_7_method_19_code 75 = .ok (.iastore, 1) := by decide +kernel
theorem d_M_axiom_76 : decode prog_7_method_19_code 76 = .ok (.aload_n 0, 1) := by decide +kernel
theorem d_M_axiom_77 : decode prog_7_method_19_code 77 = .ok (.getfield 20, 3) := by decide +kernel
theorem d_M_axiom_80 : decode prog_7_method_19_code 80 = .ok (.aload_n 0, 1) := by decide +kernel
theorem d_M_axiom_81 : decode prog_7_method_19_code 81 = .ok (.getfield 67, 3) := by decide +kernel
theorem d_M_axiom_84 : decode prog_7_method_19_code 84 = .ok (.iload_n 3, 1) := by decide +kernel
theorem d_M_axiom_85 : decode prog_7_method_19_code 85 = .ok (.ifCond .ge 8, 3) := by decide +kernel
theorem d_M_axiom_88 : decode prog_7_method_19_code 88 = .ok (.bipush 20, 2) := by decide +kernel
theorem d_M_axiom_90 : decode prog_7_method_19_code 90 = .ok (.goto 4, 3) := by decide +kernel
theorem d_M_axiom_93 : decode prog_7_method_19_code 93 = .ok (.iload_n 3, 1) := by decide +kernel
theorem d_M_axiom_94 : decode prog_7_method_19_code 94 = .ok (.iastore, 1) := by decide +kernel
theorem d_M_axiom_95 : decode prog_7_method_19_code 95 = .ok (.aload_n 0, 1) := by decide +kernel
theorem d_M_axiom_96 : decode prog_7_method_19_code 96 = .ok (.getfield 23, 3) := by decide +kernel
theorem d_M_axiom_99 : decode prog_7_method_19_code 99 = .ok (.aload_n 0, 1) := by decide +kernel
theorem d_M_axiom_100 : decode prog_7_method_19_code 100 = .ok (.getfield 67, 3) := by decide +kernel
theorem d_M_axiom_103 : decode prog_7_method_19_code 103 = .ok (.iconst 1, 1) := by decide +kernel
theorem d_M_axiom_104 : decode prog_7_method_19_code 104 = .ok (.bastore, 1) := by decide +kernel
theorem d_M_axiom_105 : decode prog_7_method_19_code 105 = .ok (.aload_n 0, 1) := by decide +kernel
theorem d_M_axiom_106 : decode prog_7_method_19_code 106 = .ok (.dup, 1) := by decide +kernel
theorem d_M_axiom_107 : decode prog_7_method_19_code 107 = .ok (.getfield 67, 3) := by decide +kernel
theorem d_M_axiom_110 : decode prog_7_method_19_code 110 = .ok (.iconst 1, 1) := by decide +kernel
theorem d_M_axiom_111 : decode prog_7_method_19_code 111 = .ok (.iadd, 1) := by decide +kernel
theorem d_M_axiom_112 : decode prog_7_method_19_code 112 = .ok (.putfield 67, 3) := by decide +kernel
theorem d_M_axiom_115 : decode prog_7_method_19_code 115 = .ok (.aload_n 0, 1) := by decide +kernel
theorem d_M_axiom_116 : decode prog_7_method_19_code 116 = .ok (.iconst 0, 1) := by decide +kernel
theorem d_M_axiom_117 : decode prog_7_method_19_code 117 = .ok (.putfield 97, 3) := by decide +kernel
theorem d_M_axiom_120 : decode prog_7_method_19_code 120 = .ok (.aload_n 0, 1) := by decide +kernel
theorem d_M_axiom_121 : decode prog_7_method_19_code 121 = .ok (.aload_n 0, 1) := by decide +kernel
theorem d_M_axiom_122 : decode prog_7_method_19_code 122 = .ok (.getfield 67, 3) := by decide +kernel
theorem d_M_axiom_125 : decode prog_7_method_19_code 125 = .ok (.iconst 1, 1) := by decide +kernel
theorem d_M_axiom_126 : decode prog_7_method_19_code 126 = .ok (.isub, 1) := by decide +kernel
theorem d_M_axiom_127 : decode prog_7_method_19_code 127 = .ok (.iconst 0, 1) := by decide +kernel
theorem d_M_axiom_128 : decode prog_7_method_19_code 128 = .ok (.invokevirtual 110, 3) := by decide +kernel
theorem d_M_axiom_131 : decode prog_7_method_19_code 131 = .ok (.aload_n 0, 1) := by decide +kernel
theorem d_M_axiom_132 : decode prog_7_method_19_code 132 = .ok (.invokevirtual 101, 3) := by decide +kernel
theorem d_M_axiom_135 : decode prog_7_method_19_code 135 = .ok (.aload_n 0, 1) := by decide +kernel
theorem d_M_axiom_136 : decode prog_7_method_19_code 136 = .ok (.getfield 67, 3) := by decide +kernel
theorem d_M_axiom_139 : decode prog_7_method_19_code 139 = .ok (.iconst 1, 1) := by decide +kernel
theorem d_M_axiom_140 : decode prog_7_method_19_code 140 = .ok (.isub, 1) := by decide +kernel
theorem d_M_axiom_141 : decode prog_7_method_19_code 141 = .ok (.ireturn, 1) := by decide +kernel
theorem d_M_isClass_0 : decode prog_7_method_3_code 0 = .ok (.iload_n 1, 1) := by decide +kernel
theorem d_M_isClass_1 : decode prog_7_method_3_code 1 = .ok (.ifCond .lt 15, 3) := by decide +kernel
theorem d_M_isClass_4 : decode prog_7_method_3_code 4 = .ok (.iload_n 1, 1) := by decide +kernel
theorem d_M_isClass_5 : decode prog_7_method_3_code 5 = .ok (.aload_n 0, 1) := by decide +kernel
theorem d_M_isClass_6 : decode prog_7_method_3_code 6 = .ok (.getfield 60, 3) := by decide +kernel
theorem d_M_isClass_9 : decode prog_7_method_3_code 9 = .ok (.if_icmp .ge 7, 3) := by decide +kernel
theorem d_M_isClass_12 : decode prog_7_method_3_code 12 = .ok (.iconst 1, 1) := by decide +kernel
theorem d_M_isClass_13 : decode prog_7_method_3_code 13 = .ok (.goto 4, 3) := by decide +kernel
theorem d_M_isClass_16 : decode prog_7_method_3_code 16 = .ok (.iconst 0, 1) := by decide +kernel
theorem d_M_isClass_17 : decode prog_7_method_3_code 17 = .ok (.ireturn, 1) := by decide +kernel
theorem d_M_forget_0 : decode prog_7_method_18_code 0 = .ok (.iconst 0, 1) := by decide +kernel
theorem d_M_forget_1 : decode prog_7_method_18_code 1 = .ok (.istore_n 3, 1) := by decide +kernel
theorem d_M_forget_2 : decode prog_7_method_18_code 2 = .ok (.iload_n 3, 1) := by decide +kernel
theorem d_M_forget_3 : decode prog_7_method_18_code 3 = .ok (.aload_n 0, 1) := by decide +kernel
theorem d_M_forget_4 : decode prog_7_method_18_code 4 = .ok (.getfield 60, 3) := by decide +kernel
theorem d_M_forget_7 : decode prog_7_method_18_code 7 = .ok (.if_icmp .ge 73, 3) := by decide +kernel
theorem d_M_forget_10 : decode prog_7_method_18_code 10 = .ok (.aload_n 0, 1) := by decide +kernel
theorem d_M_forget_11 : decode prog_7_method_18_code 11 = .ok (.iload_n 3, 1) := by decide +kernel
theorem d_M_forget_12 : decode prog_7_method_18_code 12 = .ok (.iload_n 1, 1) := by decide +kernel
theorem d_M_forget_13 : decode prog_7_method_18_code 13 = .ok (.invokevirtual 107, 3) := by decide +kernel
theorem d_M_forget_16 : decode prog_7_method_18_code 16 = .ok (.ifCond .eq 58, 3) := by decide +kernel
theorem d_M_forget_19 : decode prog_7_method_18_code 19 = .ok (.iconst 0, 1) := by decide +kernel
theorem d_M_forget_20 : decode prog_7_method_18_code 20 = .ok (.istore 4, 2) := by decide +kernel
theorem d_M_forget_22 : decode prog_7_method_18_code 22 = .ok (.iload 4, 2) := by decide +kernel
theorem d_M_forget_24 : decode prog_7_method_18_code 24 = .ok (.bipush 20, 2) := by decide +kernel
theorem d_M_forget_26 : decode prog_7_method_18_code 26 = .ok (.if_icmp .gt 48, 3) := by decide +kernel
theorem d_M_forget_29 : decode prog_7_method_18_code 29 = .ok (.aload_n 0, 1) := by decide +kernel
theorem d_M_forget_30 : decode prog_7_method_18_code 30 = .ok (.getfield 30, 3) := by decide +kernel
theorem d_M_forget_33 : decode prog_7_method_18_code 33 = .ok (.bipush 21, 2) := by decide +kernel
theorem d_M_forget_35 : decode prog_7_method_18_code 35 = .ok (.iload_n 3, 1) := by decide +kernel
theorem d_M_forget_36 : decode prog_7_method_18_code 36 = .ok (.imul, 1) := by decide +kernel
theorem d_M_forget_37 : decode prog_7_method_18_code 37 = .ok (.iload 4, 2) := by decide +kernel
theorem d_M_forget_39 : decode prog_7_method_18_code 39 = .ok (.iadd, 1) := by decide +kernel
theorem d_M_forget_40 : decode prog_7_method_18_code 40 = .ok (.iaload, 1) := by decide +kernel
theorem d_M_forget_41 : decode prog_7_method_18_code 41 = .ok (.istore 5, 2) := by decide +kernel
theorem d_M_forget_43 : decode prog_7_method_18_code 43 = .ok (.iload 5, 2) := by decide +kernel
theorem d_M_forget_45 : decode prog_7_method_18_code 45 = .ok (.iload_n 2, 1) := by decide +kernel
theorem d_M_forget_46 : decode prog_7_method_18_code 46 = .ok (.if_icmp .eq 9, 3) := by decide +kernel
theorem d_M_forget_49 : decode prog_7_method_18_code 49 = .ok (.iload 5, 2) := by decide +kernel
theorem d_M_forget_51 : decode prog_7_method_18_code 51 = .ok (.iconst 2, 1) := by decide +kernel
theorem d_M_forget_52 : decode prog_7_method_18_code 52 = .ok (.if_icmp .ne 16, 3) := by decide +kernel
theorem d_M_forget_55 : decode prog_7_method_18_code 55 = .ok (.aload_n 0, 1) := by decide +kernel
theorem d_M_forget_56 : decode prog_7_method_18_code 56 = .ok (.getfield 30, 3) := by decide +kernel
theorem d_M_forget_59 : decode prog_7_method_18_code 59 = .ok (.bipush 21, 2) := by decide +kernel
theorem d_M_forget_61 : decode prog_7_method_18_code 61 = .ok (.iload_n 3, 1) := by decide +kernel
theorem d_M_forget_62 : decode prog_7_method_18_code 62 = .ok (.imul, 1) := by decide +kernel
theorem d_M_forget_63 : decode prog_7_method_18_code 63 = .ok (.iload 4, 2) := by decide +kernel
theorem d_M_forget_65 : decode prog_7_method_18_code 65 = .ok (.iadd, 1) := by decide +kernel
theorem d_M_forget_66 : decode prog_7_method_18_code 66 = .ok (.iconst 3, 1) := by decide +kernel
theorem d_M_forget_67 : decode prog_7_method_18_code 67 = .ok (.iastore, 1) := by decide +kernel
theorem d_M_forget_68 : decode prog_7_method_18_code 68 = .ok (.iinc 4 1, 3) := by decide +kernel
theorem d_M_forget_71 : decode prog_7_method_18_code 71 = .ok (.goto (-49), 3) := by decide +kernel
theorem d_M_forget_74 : decode prog_7_method_18_code 74 = .ok (.iinc 3 1, 3) := by decide +kernel
theorem d_M_forget_77 : decode prog_7_method_18_code 77 = .ok (.goto (-75), 3) := by decide +kernel
theorem d_M_forget_80 : decode prog_7_method_18_code 80 = .ok (.return_, 1) := by decide +kernel
theorem d_M_isTouched_0 : decode prog_7_method_17_code 0 = .ok (.iconst 0, 1) := by decide +kernel
theorem d_M_isTouched_1 : decode prog_7_method_17_code 1 = .ok (.istore_n 3, 1) := by decide +kernel
theorem d_M_isTouched_2 : decode prog_7_method_17_code 2 = .ok (.iload_n 3, 1) := by decide +kernel
theorem d_M_isTouched_3 : decode prog_7_method_17_code 3 = .ok (.bipush 20, 2) := by decide +kernel
theorem d_M_isTouched_5 : decode prog_7_method_17_code 5 = .ok (.if_icmp .gt 25, 3) := by decide +kernel
theorem d_M_isTouched_8 : decode prog_7_method_17_code 8 = .ok (.aload_n 0, 1) := by decide +kernel
theorem d_M_isTouched_9 : decode prog_7_method_17_code 9 = .ok (.getfield 54, 3) := by decide +kernel
theorem d_M_isTouched_12 : decode prog_7_method_17_code 12 = .ok (.iload_n 3, 1) := by decide +kernel
theorem d_M_isTouched_13 : decode prog_7_method_17_code 13 = .ok (.iload_n 3, 1) := by decide +kernel
theorem d_M_isTouched_14 : decode prog_7_method_17_code 14 = .ok (.iload_n 1, 1) := by decide +kernel
theorem d_M_isTouched_15 : decode prog_7_method_17_code 15 = .ok (.if_icmp .ne 7, 3) := by decide +kernel
theorem d_M_isTouched_18 : decode prog_7_method_17_code 18 = .ok (.iconst 1, 1) := by decide +kernel
theorem d_M_isTouched_19 : decode prog_7_method_17_code 19 = .ok (.goto 4, 3) := by decide +kernel
theorem d_M_isTouched_22 : decode prog_7_method_17_code 22 = .ok (.iconst 0, 1) := by decide +kernel
theorem d_M_isTouched_23 : decode prog_7_method_17_code 23 = .ok (.bastore, 1) := by decide +kernel
theorem d_M_isTouched_24 : decode prog_7_method_17_code 24 = .ok (.iinc 3 1, 3) := by decide +kernel
theorem d_M_isTouched_27 : decode prog_7_method_17_code 27 = .ok (.goto (-25), 3) := by decide +kernel
theorem d_M_isTouched_30 : decode prog_7_method_17_code 30 = .ok (.iconst 1, 1) := by decide +kernel
theorem d_M_isTouched_31 : decode prog_7_method_17_code 31 = .ok (.istore_n 3, 1) := by decide +kernel
theorem d_M_isTouched_32 : decode prog_7_method_17_code 32 = .ok (.iload_n 3, 1) := by decide +kernel
theorem d_M_isTouched_33 : decode prog_7_method_17_code 33 = .ok (.ifCond .eq 206, 3) := by decide +kernel
theorem d_M_isTouched_36 : decode prog_7_method_17_code 36 = .ok (.iconst 0, 1) := by decide +kernel
theorem d_M_isTouched_37 : decode prog_7_method_17_code 37 = .ok (.istore_n 3, 1) := by decide +kernel
theorem d_M_isTouched_38 : decode prog_7_method_17_code 38 = .ok (.iconst 0, 1) := by decide +kernel
theorem d_M_isTouched_39 : decode prog_7_method_17_code 39 = .ok (.istore 4, 2) := by decide +kernel
theorem d_M_isTouched_41 : decode prog_7_method_17_code 41 = .ok (.iload 4, 2) := by decide +kernel
theorem d_M_isTouched_43 : decode prog_7_method_17_code 43 = .ok (.aload_n 0, 1) := by decide +kernel
theorem d_M_isTouched_44 : decode prog_7_method_17_code 44 = .ok (.getfield 67, 3) := by decide +kernel
theorem d_M_isTouched_47 : decode prog_7_method_17_code 47 = .ok (.if_icmp .ge 189, 3) := by decide +kernel
theorem d_M_isTouched_50 : decode prog_7_method_17_code 50 = .ok (.aload_n 0, 1) := by decide +kernel
theorem d_M_isTouched_51 : decode prog_7_method_17_code 51 = .ok (.getfield 23, 3) := by decide +kernel
theorem d_M_isTouched_54 : decode prog_7_method_17_code 54 = .ok (.iload 4, 2) := by decide +kernel
theorem d_M_isTouched_56 : decode prog_7_method_17_code 56 = .ok (.baload, 1) := by decide +kernel
theorem d_M_isTouched_57 : decode prog_7_method_17_code 57 = .ok (.ifCond .eq 47, 3) := by decide +kernel
theorem d_M_isTouched_60 : decode prog_7_method_17_code 60 = .ok (.aload_n 0, 1) := by decide +kernel
theorem d_M_isTouched_61 : decode prog_7_method_17_code 61 = .ok (.getfield 54, 3) := by decide +kernel
theorem d_M_isTouched_64 : decode prog_7_method_17_code 64 = .ok (.aload_n 0, 1) := by decide +kernel
theorem d_M_isTouched_65 : decode prog_7_method_17_code 65 = .ok (.getfield 13, 3) := by decide +kernel
theorem d_M_isTouched_68 : decode prog_7_method_17_code 68 = .ok (.iload 4, 2) := by decide +kernel
theorem d_M_isTouched_70 : decode prog_7_method_17_code 70 = .ok (.iaload, 1) := by decide +kernel
theorem d_M_isTouched_71 : decode prog_7_method_17_code 71 = .ok (.baload, 1) := by decide +kernel
theorem d_M_isTouched_72 : decode prog_7_method_17_code 72 = .ok (.ifCond .ne 28, 3) := by decide +kernel
theorem d_M_isTouched_75 : decode prog_7_method_17_code 75 = .ok (.aload_n 0, 1) := by decide +kernel
theorem d_M_isTouched_76 : decode prog_7_method_17_code 76 = .ok (.getfield 17, 3) := by decide +kernel
theorem d_M_isTouched_79 : decode prog_7_method_17_code 79 = .ok (.iload 4, 2) := by decide +kernel
theorem d_M_isTouched_81 : decode prog_7_method_17_code 81 = .ok (.iaload, 1) := by decide +kernel
theorem d_M_isTouched_82 : decode prog_7_method_17_code 82 = .ok (.ifCond .lt 22, 3) := by decide +kernel
theorem d_M_isTouched_85 : decode prog_7_method_17_code 85 = .ok (.aload_n 0, 1) := by decide +kernel
theorem d_M_isTouched_86 : decode prog_7_method_17_code 86 = .ok (.getfield 54, 3) := by decide +kernel
theorem d_M_isTouched_89 : decode prog_7_method_17_code 89 = .ok (.aload_n 0, 1) := by decide +kernel
theorem d_M_isTouched_90 : decode prog_7_method_17_code 90 = .ok (.getfield 17, 3) := by decide +kernel
theorem d_M_isTouched_93 : decode prog_7_method_17_code 93 = .ok (.iload 4, 2) := by decide +kernel
theorem d_M_isTouched_95 : decode prog_7_method_17_code 95 = .ok (.iaload, 1) := by decide +kernel
theorem d_M_isTouched_96 : decode prog_7_method_17_code 96 = .ok (.baload, 1) := by decide +kernel
theorem d_M_isTouched_97 : decode prog_7_method_17_code 97 = .ok (.ifCond .eq 7, 3) := by decide +kernel
theorem d_M_isTouched_100 : decode prog_7_method_17_code 100 = .ok (.iconst 1, 1) := by decide +kernel
theorem d_M_isTouched_101 : decode prog_7_method_17_code 101 = .ok (.goto 4, 3) := by decide +kernel
theorem d_M_isTouched_104 : decode prog_7_method_17_code 104 = .ok (.iconst 0, 1) := by decide +kernel
theorem d_M_isTouched_105 : decode prog_7_method_17_code 105 = .ok (.istore 5, 2) := by decide +kernel
theorem d_M_isTouched_107 : decode prog_7_method_17_code 107 = .ok (.aload_n 0, 1) := by decide +kernel
theorem d_M_isTouched_108 : decode prog_7_method_17_code 108 = .ok (.getfield 54, 3) := by decide +kernel
theorem d_M_isTouched_111 : decode prog_7_method_17_code 111 = .ok (.aload_n 0, 1) := by decide +kernel
theorem d_M_isTouched_112 : decode prog_7_method_17_code 112 = .ok (.getfield 13, 3) := by decide +kernel
theorem d_M_isTouched_115 : decode prog_7_method_17_code 115 = .ok (.iload 4, 2) := by decide +kernel
theorem d_M_isTouched_117 : decode prog_7_method_17_code 117 = .ok (.iaload, 1) := by decide +kernel
theorem d_M_isTouched_118 : decode prog_7_method_17_code 118 = .ok (.baload, 1) := by decide +kernel
theorem d_M_isTouched_119 : decode prog_7_method_17_code 119 = .ok (.ifCond .eq 47, 3) := by decide +kernel
theorem d_M_isTouched_122 : decode prog_7_method_17_code 122 = .ok (.aload_n 0, 1) := by decide +kernel
theorem d_M_isTouched_123 : decode prog_7_method_17_code 123 = .ok (.getfield 17, 3) := by decide +kernel
theorem d_M_isTouched_126 : decode prog_7_method_17_code 126 = .ok (.iload 4, 2) := by decide +kernel
theorem d_M_isTouched_128 : decode prog_7_method_17_code 128 = .ok (.iaload, 1) := by decide +kernel
theorem d_M_isTouched_129 : decode prog_7_method_17_code 129 = .ok (.ifCond .lt 18, 3) := by decide +kernel
theorem d_M_isTouched_132 : decode prog_7_method_17_code 132 = .ok (.aload_n 0, 1) := by decide +kernel
theorem d_M_isTouched_133 : decode prog_7_method_17_code 133 = .ok (.getfield 54, 3) := by decide +kernel
theorem d_M_isTouched_136 : decode prog_7_method_17_code 136 = .ok (.aload_n 0, 1) := by decide +kernel
theorem d_M_isTouched_137 : decode prog_7_method_17_code 137 = .ok (.getfield 17, 3) := by decide +kernel
theorem d_M_isTouched_140 : decode prog_7_method_17_code 140 = .ok (.iload 4, 2) := by decide +kernel
theorem d_M_isTouched_142 : decode prog_7_method_17_code 142 = .ok (.iaload, 1) := by decide +kernel
theorem d_M_isTouched_143 : decode prog_7_method_17_code 143 = .ok (.baload, 1) := by decide +kernel
theorem d_M_isTouched_144 : decode prog_7_method_17_code 144 = .ok (.ifCond .eq 22, 3) := by decide +kernel
theorem d_M_isTouched_147 : decode prog_7_method_17_code 147 = .ok (.aload_n 0, 1) := by decide +kernel
theorem d_M_isTouched_148 : decode prog_7_method_17_code 148 = .ok (.getfield 54, 3) := by decide +kernel
theorem d_M_isTouched_151 : decode prog_7_method_17_code 151 = .ok (.aload_n 0, 1) := by decide +kernel
theorem d_M_isTouched_152 : decode prog_7_method_17_code 152 = .ok (.getfield 20, 3) := by decide +kernel
theorem d_M_isTouched_155 : decode prog_7_method_17_code 155 = .ok (.iload 4, 2) := by decide +kernel
theorem d_M_isTouched_157 : decode prog_7_method_17_code 157 = .ok (.iaload, 1) := by decide +kernel
theorem d_M_isTouched_158 : decode prog_7_method_17_code 158 = .ok (.baload, 1) := by decide +kernel
theorem d_M_isTouched_159 : decode prog_7_method_17_code 159 = .ok (.ifCond .eq 7, 3) := by decide +kernel
theorem d_M_isTouched_162 : decode prog_7_method_17_code 162 = .ok (.iconst 1, 1) := by decide +kernel
theorem d_M_isTouched_163 : decode prog_7_method_17_code 163 = .ok (.goto 4, 3) := by decide +kernel
theorem d_M_isTouched_166 : decode prog_7_method_17_code 166 = .ok (.iconst 0, 1) := by decide +kernel
theorem d_M_isTouched_167 : decode prog_7_method_17_code 167 = .ok (.istore 6, 2) := by decide +kernel
theorem d_M_isTouched_169 : decode prog_7_method_17_code 169 = .ok (.iload 5, 2) := by decide +kernel
theorem d_M_isTouched_171 : decode prog_7_method_17_code 171 = .ok (.ifCond .eq 59, 3) := by decide +kernel
theorem d_M_isTouched_174 : decode prog_7_method_17_code 174 = .ok (.iload 6, 2) := by decide +kernel
theorem d_M_isTouched_176 : decode prog_7_method_17_code 176 = .ok (.ifCond .ne 54, 3) := by decide +kernel
theorem d_M_isTouched_179 : decode prog_7_method_17_code 179 = .ok (.aload_n 0, 1) := by decide +kernel
theorem d_M_isTouched_180 : decode prog_7_method_17_code 180 = .ok (.getfield 54, 3) := by decide +kernel
theorem d_M_isTouched_183 : decode prog_7_method_17_code 183 = .ok (.aload_n 0, 1) := by decide +kernel
theorem d_M_isTouched_184 : decode prog_7_method_17_code 184 = .ok (.getfield 13, 3) := by decide +kernel
theorem d_M_isTouched_187 : decode prog_7_method_17_code 187 = .ok (.iload 4, 2) := by decide +kernel
theorem d_M_isTouched_189 : decode prog_7_method_17_code 189 = .ok (.iaload, 1) := by decide +kernel
theorem d_M_isTouched_190 : decode prog_7_method_17_code 190 = .ok (.iconst 1, 1) := by decide +kernel
theorem d_M_isTouched_191 : decode prog_7_method_17_code 191 = .ok (.bastore, 1) := by decide +kernel
theorem d_M_isTouched_192 : decode prog_7_method_17_code 192 = .ok (.aload_n 0, 1) := by decide +kernel
theorem d_M_isTouched_193 : decode prog_7_method_17_code 193 = .ok (.getfield 17, 3) := by decide +kernel
theorem d_M_isTouched_196 : decode prog_7_method_17_code 196 = .ok (.iload 4, 2) := by decide +kernel
theorem d_M_isTouched_198 : decode prog_7_method_17_code 198 = .ok (.iaload, 1) := by decide +kernel
theorem d_M_isTouched_199 : decode prog_7_method_17_code 199 = .ok (.ifCond .lt 16, 3) := by decide +kernel
theorem d_M_isTouched_202 : decode prog_7_method_17_code 202 = .ok (.aload_n 0, 1) := by decide +kernel
theorem d_M_isTouched_203 : decode prog_7_method_17_code 203 = .ok (.getfield 54, 3) := by decide +kernel
theorem d_M_isTouched_206 : decode prog_7_method_17_code 206 = .ok (.aload_n 0, 1) := by decide +kernel
theorem d_M_isTouched_207 : decode prog_7_method_17_code 207 = .ok (.getfield 17, 3) := by decide +kernel
theorem d_M_isTouched_210 : decode prog_7_method_17_code 210 = .ok (.iload 4, 2) := by decide +kernel
theorem d_M_isTouched_212 : decode prog_7_method_17_code 212 = .ok (.iaload, 1) := by decide +kernel
theorem d_M_isTouched_213 : decode prog_7_method_17_code 213 = .ok (.iconst 1, 1) := by decide +kernel
theorem d_M_isTouched_214 : decode prog_7_method_17_code 214 = .ok (.bastore, 1) := by decide +kernel
theorem d_M_isTouched_215 : decode prog_7_method_17_code 215 = .ok (.aload_n 0, 1) := by decide +kernel
theorem d_M_isTouched_216 : decode prog_7_method_17_code 216 = .ok (.getfield 54, 3) := by decide +kernel
theorem d_M_isTouched_219 : decode prog_7_method_17_code 219 = .ok (.aload_n 0, 1) := by decide +kernel
theorem d_M_isTouched_220 : decode prog_7_method_17_code 220 = .ok (.getfield 20, 3) := by decide +kernel
theorem d_M_isTouched_223 : decode prog_7_method_17_code 223 = .ok (.iload 4, 2) := by decide +kernel
theorem d_M_isTouched_225 : decode prog_7_method_17_code 225 = .ok (.iaload, 1) := by decide +kernel
theorem d_M_isTouched_226 : decode prog_7_method_17_code 226 = .ok (.iconst 1, 1) := by decide +kernel
theorem d_M_isTouched_227 : decode prog_7_method_17_code 227 = .ok (.bastore, 1) := by decide +kernel
theorem d_M_isTouched_228 : decode prog_7_method_17_code 228 = .ok (.iconst 1, 1) := by decide +kernel
theorem d_M_isTouched_229 : decode prog_7_method_17_code 229 = .ok (.istore_n 3, 1) := by decide +kernel
theorem d_M_isTouched_230 : decode prog_7_method_17_code 230 = .ok (.iinc 4 1, 3) := by decide +kernel
theorem d_M_isTouched_233 : decode prog_7_method_17_code 233 = .ok (.goto (-192), 3) := by decide +kernel
theorem d_M_isTouched_236 : decode prog_7_method_17_code 236 = .ok (.goto (-204), 3) := by decide +kernel
theorem d_M_isTouched_239 : decode prog_7_method_17_code 239 = .ok (.aload_n 0, 1) := by decide +kernel
theorem d_M_isTouched_240 : decode prog_7_method_17_code 240 = .ok (.getfield 54, 3) := by decide +kernel
theorem d_M_isTouched_243 : decode prog_7_method_17_code 243 = .ok (.aload_n 0, 1) := by decide +kernel
theorem d_M_isTouched_244 : decode prog_7_method_17_code 244 = .ok (.getfield 13, 3) := by decide +kernel
theorem d_M_isTouched_247 : decode prog_7_method_17_code 247 = .ok (.iload_n 2, 1) := by decide +kernel
theorem d_M_isTouched_248 : decode prog_7_method_17_code 248 = .ok (.iaload, 1) := by decide +kernel
theorem d_M_isTouched_249 : decode prog_7_method_17_code 249 = .ok (.baload, 1) := by decide +kernel
theorem d_M_isTouched_250 : decode prog_7_method_17_code 250 = .ok (.ifCond .ne 26, 3) := by decide +kernel
theorem d_M_isTouched_253 : decode prog_7_method_17_code 253 = .ok (.aload_n 0, 1) := by decide +kernel
theorem d_M_isTouched_254 : decode prog_7_method_17_code 254 = .ok (.getfield 17, 3) := by decide +kernel
theorem d_M_isTouched_257 : decode prog_7_method_17_code 257 = .ok (.iload_n 2, 1) := by decide +kernel
theorem d_M_isTouched_258 : decode prog_7_method_17_code 258 = .ok (.iaload, 1) := by decide +kernel
theorem d_M_isTouched_259 : decode prog_7_method_17_code 259 = .ok (.ifCond .lt 21, 3) := by decide +kernel
theorem d_M_isTouched_262 : decode prog_7_method_17_code 262 = .ok (.aload_n 0, 1) := by decide +kernel
theorem d_M_isTouched_263 : decode prog_7_method_17_code 263 = .ok (.getfield 54, 3) := by decide +kernel
theorem d_M_isTouched_266 : decode prog_7_method_17_code 266 = .ok (.aload_n 0, 1) := by decide +kernel
theorem d_M_isTouched_267 : decode prog_7_method_17_code 267 = .ok (.getfield 17, 3) := by decide +kernel
theorem d_M_isTouched_270 : decode prog_7_method_17_code 270 = .ok (.iload_n 2, 1) := by decide +kernel
theorem d_M_isTouched_271 : decode prog_7_method_17_code 271 = .ok (.iaload, 1) := by decide +kernel
theorem d_M_isTouched_272 : decode prog_7_method_17_code 272 = .ok (.baload, 1) := by decide +kernel
theorem d_M_isTouched_273 : decode prog_7_method_17_code 273 = .ok (.ifCond .eq 7, 3) := by decide +kernel
theorem d_M_isTouched_276 : decode prog_7_method_17_code 276 = .ok (.iconst 1, 1) := by decide +kernel
theorem d_M_isTouched_277 : decode prog_7_method_17_code 277 = .ok (.goto 4, 3) := by decide +kernel
theorem d_M_isTouched_280 : decode prog_7_method_17_code 280 = .ok (.iconst 0, 1) := by decide +kernel
theorem d_M_isTouched_281 : decode prog_7_method_17_code 281 = .ok (.ireturn, 1) := by decide +kernel
theorem d_M_remove_0 : decode prog_7_method_20_code 0 = .ok (.iload_n 1, 1) := by decide +kernel
theorem d_M_remove_1 : decode prog_7_method_20_code 1 = .ok (.ifCond .lt 20, 3) := by decide +kernel
theorem d_M_remove_4 : decode prog_7_method_20_code 4 = .ok (.iload_n 1, 1) := by decide +kernel
theorem d_M_remove_5 : decode prog_7_method_20_code 5 = .ok (.aload_n 0, 1) := by decide +kernel
theorem d_M_remove_6 : decode prog_7_method_20_code 6 = .ok (.getfield 67, 3) := by decide +kernel
theorem d_M_remove_9 : decode prog_7_method_20_code 9 = .ok (.if_icmp .ge 12, 3) := by decide +kernel
theorem d_M_remove_12 : decode prog_7_method_20_code 12 = .ok (.aload_n 0, 1) := by decide +kernel
theorem d_M_remove_13 : decode prog_7_method_20_code 13 = .ok (.getfield 23, 3) := by decide +kernel
theorem d_M_remove_16 : decode prog_7_method_20_code 16 = .ok (.iload_n 1, 1) := by decide +kernel
theorem d_M_remove_17 : decode prog_7_method_20_code 17 = .ok (.baload, 1) := by decide +kernel
theorem d_M_remove_18 : decode prog_7_method_20_code 18 = .ok (.ifCond .ne 5, 3) := by decide +kernel
theorem d_M_remove_21 : decode prog_7_method_20_code 21 = .ok (.iconst (-1), 1) := by decide +kernel
theorem d_M_remove_22 : decode prog_7_method_20_code 22 = .ok (.ireturn, 1) := by decide +kernel
theorem d_M_remove_23 : decode prog_7_method_20_code 23 = .ok (.iconst 0, 1) := by decide +kernel
theorem d_M_remove_24 : decode prog_7_method_20_code 24 = .ok (.istore_n 2, 1) := by decide +kernel
theorem d_M_remove_25 : decode prog_7_method_20_code 25 = .ok (.iload_n 2, 1) := by decide +kernel
theorem d_M_remove_26 : decode prog_7_method_20_code 26 = .ok (.sipush 420, 3) := by decide +kernel
theorem d_M_remove_29 : decode prog_7_method_20_code 29 = .ok (.if_icmp .ge 21, 3) := by decide +kernel
theorem d_M_remove_32 : decode prog_7_method_20_code 32 = .ok (.aload_n 0, 1) := by decide +kernel
theorem d_M_remove_33 : decode prog_7_method_20_code 33 = .ok (.getfield 33, 3) := by decide +kernel
theorem d_M_remove_36 : decode prog_7_method_20_code 36 = .ok (.iload_n 2, 1) := by decide +kernel
theorem d_M_remove_37 : decode prog_7_method_20_code 37 = .ok (.aload_n 0, 1) := by decide +kernel
theorem d_M_remove_38 : decode prog_7_method_20_code 38 = .ok (.getfield 30, 3) := by decide +kernel
theorem d_M_remove_41 : decode prog_7_method_20_code 41 = .ok (.iload_n 2, 1) := by decide +kernel
theorem d_M_remove_42 : decode prog_7_method_20_code 42 = .ok (.iaload, 1) := by decide +kernel
theorem d_M_remove_43 : decode prog_7_method_20_code 43 = .ok (.iastore, 1) := by decide +kernel
theorem d_M_remove_44 : decode prog_7_method_20_code 44 = .ok (.iinc 2 1, 3) := by decide +kernel
theorem d_M_remove_47 : decode prog_7_method_20_code 47 = .ok (.goto (-22), 3) := by decide +kernel
theorem d_M_remove_50 : decode prog_7_method_20_code 50 = .ok (.aload_n 0, 1) := by decide +kernel
theorem d_M_remove_51 : decode prog_7_method_20_code 51 = .ok (.iload_n 1, 1) := by decide +kernel
theorem d_M_remove_52 : decode prog_7_method_20_code 52 = .ok (.iconst 1, 1) := by decide +kernel
theorem d_M_remove_53 : decode prog_7_method_20_code 53 = .ok (.invokevirtual 110, 3) := by decide +kernel
theorem d_M_remove_56 : decode prog_7_method_20_code 56 = .ok (.aload_n 0, 1) := by decide +kernel
theorem d_M_remove_57 : decode prog_7_method_20_code 57 = .ok (.getfield 23, 3) := by decide +kernel
theorem d_M_remove_60 : decode prog_7_method_20_code 60 = .ok (.iload_n 1, 1) := by decide +kernel
theorem d_M_remove_61 : decode prog_7_method_20_code 61 = .ok (.iconst 0, 1) := by decide +kernel
theorem d_M_remove_62 : decode prog_7_method_20_code 62 = .ok (.bastore, 1) := by decide +kernel
theorem d_M_remove_63 : decode prog_7_method_20_code 63 = .ok (.aload_n 0, 1) := by decide +kernel
theorem d_M_remove_64 : decode prog_7_method_20_code 64 = .ok (.iconst 0, 1) := by decide +kernel
theorem d_M_remove_65 : decode prog_7_method_20_code 65 = .ok (.putfield 97, 3) := by decide +kernel
theorem d_M_remove_68 : decode prog_7_method_20_code 68 = .ok (.aload_n 0, 1) := by decide +kernel
theorem d_M_remove_69 : decode prog_7_method_20_code 69 = .ok (.invokevirtual 101, 3) := by decide +kernel
theorem d_M_remove_72 : decode prog_7_method_20_code 72 = .ok (.iconst 0, 1) := by decide +kernel
theorem d_M_remove_73 : decode prog_7_method_20_code 73 = .ok (.istore_n 2, 1) := by decide +kernel
theorem d_M_remove_74 : decode prog_7_method_20_code 74 = .ok (.iconst 0, 1) := by decide +kernel
theorem d_M_remove_75 : decode prog_7_method_20_code 75 = .ok (.istore_n 3, 1) := by decide +kernel
theorem d_M_remove_76 : decode prog_7_method_20_code 76 = .ok (.iload_n 3, 1) := by decide +kernel
theorem d_M_remove_77 : decode prog_7_method_20_code 77 = .ok (.sipush 420, 3) := by decide +kernel
theorem d_M_remove_80 : decode prog_7_method_20_code 80 = .ok (.if_icmp .ge 37, 3) := by decide +kernel
theorem d_M_remove_83 : decode prog_7_method_20_code 83 = .ok (.iload_n 2, 1) := by decide +kernel
theorem d_M_remove_84 : decode prog_7_method_20_code 84 = .ok (.aload_n 0, 1) := by decide +kernel
theorem d_M_remove_85 : decode prog_7_method_20_code 85 = .ok (.getfield 33, 3) := by decide +kernel
theorem d_M_remove_88 : decode prog_7_method_20_code 88 = .ok (.iload_n 3, 1) := by decide +kernel
theorem d_M_remove_89 : decode prog_7_method_20_code 89 = .ok (.iaload, 1) := by decide +kernel
theorem d_M_remove_90 : decode prog_7_method_20_code 90 = .ok (.iconst 3, 1) := by decide +kernel
theorem d_M_remove_91 : decode prog_7_method_20_code 91 = .ok (.if_icmp .eq 17, 3) := by decide +kernel
theorem d_M_remove_94 : decode prog_7_method_20_code 94 = .ok (.aload_n 0, 1) := by decide +kernel
theorem d_M_remove_95 : decode prog_7_method_20_code 95 = .ok (.getfield 30, 3) := by decide +kernel
theorem d_M_remove_98 : decode prog_7_method_20_code 98 = .ok (.iload_n 3, 1) := by decide +kernel
theorem d_M_remove_99 : decode prog_7_method_20_code 99 = .ok (.iaload, 1) := by decide +kernel
theorem d_M_remove_100 : decode prog_7_method_20_code 100 = .ok (.iconst 3, 1) := by decide +kernel
theorem d_M_remove_101 : decode prog_7_method_20_code 101 = .ok (.if_icmp .ne 7, 3) := by decide +kernel
theorem d_M_remove_104 : decode prog_7_method_20_code 104 = .ok (.iconst 1, 1) := by decide +kernel
theorem d_M_remove_105 : decode prog_7_method_20_code 105 = .ok (.goto 4, 3) := by decide +kernel
theorem d_M_remove_108 : decode prog_7_method_20_code 108 = .ok (.iconst 0, 1) := by decide +kernel
theorem d_M_remove_109 : decode prog_7_method_20_code 109 = .ok (.iadd, 1) := by decide +kernel
theorem d_M_remove_110 : decode prog_7_method_20_code 110 = .ok (.istore_n 2, 1) := by decide +kernel
theorem d_M_remove_111 : decode prog_7_method_20_code 111 = .ok (.iinc 3 1, 3) := by decide +kernel
theorem d_M_remove_114 : decode prog_7_method_20_code 114 = .ok (.goto (-38), 3) := by decide +kernel
theorem d_M_remove_117 : decode prog_7_method_20_code 117 = .ok (.iload_n 2, 1) := by decide +kernel
theorem d_M_remove_118 : decode prog_7_method_20_code 118 = .ok (.ireturn, 1) := by decide +kernel
theorem d_M_fuel_0 : decode prog_7_method_22_code 0 = .ok (.iload_n 1, 1) := by decide +kernel
theorem d_M_fuel_1 : decode prog_7_method_22_code 1 = .ok (.ifCond .lt 9, 3) := by decide +kernel
theorem d_M_fuel_4 : decode prog_7_method_22_code 4 = .ok (.iload_n 1, 1) := by decide +kernel
theorem d_M_fuel_5 : decode prog_7_method_22_code 5 = .ok (.bipush 20, 2) := by decide +kernel
theorem d_M_fuel_7 : decode prog_7_method_22_code 7 = .ok (.if_icmp .le 6, 3) := by decide +kernel
theorem d_M_fuel_10 : decode prog_7_method_22_code 10 = .ok (.bipush (-2), 2) := by decide +kernel
theorem d_M_fuel_12 : decode prog_7_method_22_code 12 = .ok (.ireturn, 1) := by decide +kernel
theorem d_M_fuel_13 : decode prog_7_method_22_code 13 = .ok (.aload_n 0, 1) := by decide +kernel
theorem d_M_fuel_14 : decode prog_7_method_22_code 14 = .ok (.invokevirtual 114, 3) := by decide +kernel
theorem d_M_fuel_17 : decode prog_7_method_22_code 17 = .ok (.istore_n 2, 1) := by decide +kernel
theorem d_M_fuel_18 : decode prog_7_method_22_code 18 = .ok (.iconst 0, 1) := by decide +kernel
theorem d_M_fuel_19 : decode prog_7_method_22_code 19 = .ok (.istore_n 3, 1) := by decide +kernel
theorem d_M_fuel_20 : decode prog_7_method_22_code 20 = .ok (.iload_n 3, 1) := by decide +kernel
theorem d_M_fuel_21 : decode prog_7_method_22_code 21 = .ok (.sipush 420, 3) := by decide +kernel
theorem d_M_fuel_24 : decode prog_7_method_22_code 24 = .ok (.if_icmp .ge 35, 3) := by decide +kernel
theorem d_M_fuel_27 : decode prog_7_method_22_code 27 = .ok (.aload_n 0, 1) := by decide +kernel
theorem d_M_fuel_28 : decode prog_7_method_22_code 28 = .ok (.getfield 30, 3) := by decide +kernel
theorem d_M_fuel_31 : decode prog_7_method_22_code 31 = .ok (.iload_n 3, 1) := by decide +kernel
theorem d_M_fuel_32 : decode prog_7_method_22_code 32 = .ok (.aload_n 0, 1) := by decide +kernel
theorem d_M_fuel_33 : decode prog_7_method_22_code 33 = .ok (.getfield 30, 3) := by decide +kernel
theorem d_M_fuel_36 : decode prog_7_method_22_code 36 = .ok (.iload_n 3, 1) := by decide +kernel
theorem d_M_fuel_37 : decode prog_7_method_22_code 37 = .ok (.iaload, 1) := by decide +kernel
theorem d_M_fuel_38 : decode prog_7_method_22_code 38 = .ok (.iconst 2, 1) := by decide +kernel
theorem d_M_fuel_39 : decode prog_7_method_22_code 39 = .ok (.if_icmp .ne 7, 3) := by decide +kernel
theorem d_M_fuel_42 : decode prog_7_method_22_code 42 = .ok (.iconst 3, 1) := by decide +kernel
theorem d_M_fuel_43 : decode prog_7_method_22_code 43 = .ok (.goto 9, 3) := by decide +kernel
theorem d_M_fuel_46 : decode prog_7_method_22_code 46 = .ok (.aload_n 0, 1) := by decide +kernel
theorem d_M_fuel_47 : decode prog_7_method_22_code 47 = .ok (.getfield 30, 3) := by decide +kernel
theorem d_M_fuel_50 : decode prog_7_method_22_code 50 = .ok (.iload_n 3, 1) := by decide +kernel
theorem d_M_fuel_51 : decode prog_7_method_22_code 51 = .ok (.iaload, 1) := by decide +kernel
theorem d_M_fuel_52 : decode prog_7_method_22_code 52 = .ok (.iastore, 1) := by decide +kernel
theorem d_M_fuel_53 : decode prog_7_method_22_code 53 = .ok (.iinc 3 1, 3) := by decide +kernel
theorem d_M_fuel_56 : decode prog_7_method_22_code 56 = .ok (.goto (-36), 3) := by decide +kernel
theorem d_M_fuel_59 : decode prog_7_method_22_code 59 = .ok (.aload_n 0, 1) := by decide +kernel
theorem d_M_fuel_60 : decode prog_7_method_22_code 60 = .ok (.iload_n 1, 1) := by decide +kernel
theorem d_M_fuel_61 : decode prog_7_method_22_code 61 = .ok (.putfield 7, 3) := by decide +kernel
theorem d_M_fuel_64 : decode prog_7_method_22_code 64 = .ok (.aload_n 0, 1) := by decide +kernel
theorem d_M_fuel_65 : decode prog_7_method_22_code 65 = .ok (.iconst 0, 1) := by decide +kernel
theorem d_M_fuel_66 : decode prog_7_method_22_code 66 = .ok (.putfield 97, 3) := by decide +kernel
theorem d_M_fuel_69 : decode prog_7_method_22_code 69 = .ok (.iload_n 2, 1) := by decide +kernel
theorem d_M_fuel_70 : decode prog_7_method_22_code 70 = .ok (.ireturn, 1) := by decide +kernel
theorem d_M_openPairs_0 : decode prog_7_method_21_code 0 = .ok (.iconst 0, 1) := by decide +kernel
theorem d_M_openPairs_1 : decode prog_7_method_21_code 1 = .ok (.istore_n 1, 1) := by decide +kernel
theorem d_M_openPairs_2 : decode prog_7_method_21_code 2 = .ok (.iconst 0, 1) := by decide +kernel
theorem d_M_openPairs_3 : decode prog_7_method_21_code 3 = .ok (.istore_n 2, 1) := by decide +kernel
theorem d_M_openPairs_4 : decode prog_7_method_21_code 4 = .ok (.iload_n 2, 1) := by decide +kernel
theorem d_M_openPairs_5 : decode prog_7_method_21_code 5 = .ok (.sipush 420, 3) := by decide +kernel
theorem d_M_openPairs_8 : decode prog_7_method_21_code 8 = .ok (.if_icmp .ge 27, 3) := by decide +kernel
theorem d_M_openPairs_11 : decode prog_7_method_21_code 11 = .ok (.iload_n 1, 1) := by decide +kernel
theorem d_M_openPairs_12 : decode prog_7_method_21_code 12 = .ok (.aload_n 0, 1) := by decide +kernel
theorem d_M_openPairs_13 : decode prog_7_method_21_code 13 = .ok (.getfield 30, 3) := by decide +kernel
theorem d_M_openPairs_16 : decode prog_7_method_21_code 16 = .ok (.iload_n 2, 1) := by decide +kernel
theorem d_M_openPairs_17 : decode prog_7_method_21_code 17 = .ok (.iaload, 1) := by decide +kernel
theorem d_M_openPairs_18 : decode prog_7_method_21_code 18 = .ok (.iconst 2, 1) := by decide +kernel
theorem d_M_openPairs_19 : decode prog_7_method_21_code 19 = .ok (.if_icmp .ne 7, 3) := by decide +kernel
theorem d_M_openPairs_22 : decode prog_7_method_21_code 22 = .ok (.iconst 1, 1) := by decide +kernel
theorem d_M_openPairs_23 : decode prog_7_method_21_code 23 = .ok (.goto 4, 3) := by decide +kernel
theorem d_M_openPairs_26 : decode prog_7_method_21_code 26 = .ok (.iconst 0, 1) := by decide +kernel
theorem d_M_openPairs_27 : decode prog_7_method_21_code 27 = .ok (.iadd, 1) := by decide +kernel
theorem d_M_openPairs_28 : decode prog_7_method_21_code 28 = .ok (.istore_n 1, 1) := by decide +kernel
theorem d_M_openPairs_29 : decode prog_7_method_21_code 29 = .ok (.iinc 2 1, 3) := by decide +kernel
theorem d_M_openPairs_32 : decode prog_7_method_21_code 32 = .ok (.goto (-28), 3) := by decide +kernel
theorem d_M_openPairs_35 : decode prog_7_method_21_code 35 = .ok (.iload_n 1, 1) := by decide +kernel
theorem d_M_openPairs_36 : decode prog_7_method_21_code 36 = .ok (.ireturn, 1) := by decide +kernel
theorem d_M_known_0 : decode prog_7_method_23_code 0 = .ok (.aload_n 0, 1) := by decide +kernel
theorem d_M_known_1 : decode prog_7_method_23_code 1 = .ok (.iload_n 2, 1) := by decide +kernel
theorem d_M_known_2 : decode prog_7_method_23_code 2 = .ok (.invokevirtual 118, 3) := by decide +kernel
theorem d_M_known_5 : decode prog_7_method_23_code 5 = .ok (.istore_n 3, 1) := by decide +kernel
theorem d_M_known_6 : decode prog_7_method_23_code 6 = .ok (.aload_n 0, 1) := by decide +kernel
theorem d_M_known_7 : decode prog_7_method_23_code 7 = .ok (.iload_n 1, 1) := by decide +kernel
theorem d_M_known_8 : decode prog_7_method_23_code 8 = .ok (.invokevirtual 63, 3) := by decide +kernel
theorem d_M_known_11 : decode prog_7_method_23_code 11 = .ok (.ifCond .eq 7, 3) := by decide +kernel
theorem d_M_known_14 : decode prog_7_method_23_code 14 = .ok (.iload_n 3, 1) := by decide +kernel
theorem d_M_known_15 : decode prog_7_method_23_code 15 = .ok (.ifCond .ge 7, 3) := by decide +kernel
theorem d_M_known_18 : decode prog_7_method_23_code 18 = .ok (.iconst (-1), 1) := by decide +kernel
theorem d_M_known_19 : decode prog_7_method_23_code 19 = .ok (.goto 14, 3) := by decide +kernel
theorem d_M_known_22 : decode prog_7_method_23_code 22 = .ok (.aload_n 0, 1) := by decide +kernel
theorem d_M_known_23 : decode prog_7_method_23_code 23 = .ok (.getfield 30, 3) := by decide +kernel
theorem d_M_known_26 : decode prog_7_method_23_code 26 = .ok (.bipush 21, 2) := by decide +kernel
theorem d_M_known_28 : decode prog_7_method_23_code 28 = .ok (.iload_n 1, 1) := by decide +kernel
theorem d_M_known_29 : decode prog_7_method_23_code 29 = .ok (.imul, 1) := by decide +kernel
theorem d_M_known_30 : decode prog_7_method_23_code 30 = .ok (.iload_n 3, 1) := by decide +kernel
theorem d_M_known_31 : decode prog_7_method_23_code 31 = .ok (.iadd, 1) := by decide +kernel
theorem d_M_known_32 : decode prog_7_method_23_code 32 = .ok (.iaload, 1) := by decide +kernel
theorem d_M_known_33 : decode prog_7_method_23_code 33 = .ok (.ireturn, 1) := by decide +kernel
theorem d_M_goalOf_0 : decode prog_7_method_4_code 0 = .ok (.iload_n 1, 1) := by decide +kernel
theorem d_M_goalOf_1 : decode prog_7_method_4_code 1 = .ok (.iconst (-1), 1) := by decide +kernel
theorem d_M_goalOf_2 : decode prog_7_method_4_code 2 = .ok (.if_icmp .ne 8, 3) := by decide +kernel
theorem d_M_goalOf_5 : decode prog_7_method_4_code 5 = .ok (.bipush 20, 2) := by decide +kernel
theorem d_M_goalOf_7 : decode prog_7_method_4_code 7 = .ok (.goto 16, 3) := by decide +kernel
theorem d_M_goalOf_10 : decode prog_7_method_4_code 10 = .ok (.aload_n 0, 1) := by decide +kernel
theorem d_M_goalOf_11 : decode prog_7_method_4_code 11 = .ok (.iload_n 1, 1) := by decide +kernel
theorem d_M_goalOf_12 : decode prog_7_method_4_code 12 = .ok (.invokevirtual 63, 3) := by decide +kernel
theorem d_M_goalOf_15 : decode prog_7_method_4_code 15 = .ok (.ifCond .eq 7, 3) := by decide +kernel
theorem d_M_goalOf_18 : decode prog_7_method_4_code 18 = .ok (.iload_n 1, 1) := by decide +kernel
theorem d_M_goalOf_19 : decode prog_7_method_4_code 19 = .ok (.goto 4, 3) := by decide +kernel
theorem d_M_goalOf_22 : decode prog_7_method_4_code 22 = .ok (.iconst (-1), 1) := by decide +kernel
theorem d_M_goalOf_23 : decode prog_7_method_4_code 23 = .ok (.ireturn, 1) := by decide +kernel
theorem d_M_ask_0 : decode prog_7_method_24_code 0 = .ok (.aload_n 0, 1) := by decide +kernel
theorem d_M_ask_1 : decode prog_7_method_24_code 1 = .ok (.iload_n 2, 1) := by decide +kernel
theorem d_M_ask_2 : decode prog_7_method_24_code 2 = .ok (.invokevirtual 118, 3) := by decide +kernel
theorem d_M_ask_5 : decode prog_7_method_24_code 5 = .ok (.istore_n 3, 1) := by decide +kernel
theorem d_M_ask_6 : decode prog_7_method_24_code 6 = .ok (.aload_n 0, 1) := by decide +kernel
theorem d_M_ask_7 : decode prog_7_method_24_code 7 = .ok (.iload_n 1, 1) := by decide +kernel
theorem d_M_ask_8 : decode prog_7_method_24_code 8 = .ok (.invokevirtual 63, 3) := by decide +kernel
theorem d_M_ask_11 : decode prog_7_method_24_code 11 = .ok (.ifCond .eq 7, 3) := by decide +kernel
theorem d_M_ask_14 : decode prog_7_method_24_code 14 = .ok (.iload_n 3, 1) := by decide +kernel
theorem d_M_ask_15 : decode prog_7_method_24_code 15 = .ok (.ifCond .ge 7, 3) := by decide +kernel
theorem d_M_ask_18 : decode prog_7_method_24_code 18 = .ok (.iconst (-1), 1) := by decide +kernel
theorem d_M_ask_19 : decode prog_7_method_24_code 19 = .ok (.goto 9, 3) := by decide +kernel
theorem d_M_ask_22 : decode prog_7_method_24_code 22 = .ok (.aload_n 0, 1) := by decide +kernel
theorem d_M_ask_23 : decode prog_7_method_24_code 23 = .ok (.iload_n 1, 1) := by decide +kernel
theorem d_M_ask_24 : decode prog_7_method_24_code 24 = .ok (.iload_n 3, 1) := by decide +kernel
theorem d_M_ask_25 : decode prog_7_method_24_code 25 = .ok (.invokevirtual 121, 3) := by decide +kernel
theorem d_M_ask_28 : decode prog_7_method_24_code 28 = .ok (.ireturn, 1) := by decide +kernel
theorem d_M_reasonAlone_0 : decode prog_7_method_13_code 0 = .ok (.iconst 0, 1) := by decide +kernel
theorem d_M_reasonAlone_1 : decode prog_7_method_13_code 1 = .ok (.istore_n 3, 1) := by decide +kernel
theorem d_M_reasonAlone_2 : decode prog_7_method_13_code 2 = .ok (.iload_n 3, 1) := by decide +kernel
theorem d_M_reasonAlone_3 : decode prog_7_method_13_code 3 = .ok (.bipush 20, 2) := by decide +kernel
theorem d_M_reasonAlone_5 : decode prog_7_method_13_code 5 = .ok (.if_icmp .gt 25, 3) := by decide +kernel
theorem d_M_reasonAlone_8 : decode prog_7_method_13_code 8 = .ok (.aload_n 0, 1) := by decide +kernel
theorem d_M_reasonAlone_9 : decode prog_7_method_13_code 9 = .ok (.getfield 42, 3) := by decide +kernel
theorem d_M_reasonAlone_12 : decode prog_7_method_13_code 12 = .ok (.iload_n 3, 1) := by decide +kernel
theorem d_M_reasonAlone_13 : decode prog_7_method_13_code 13 = .ok (.iload_n 3, 1) := by decide +kernel
theorem d_M_reasonAlone_14 : decode prog_7_method_13_code 14 = .ok (.iload_n 1, 1) := by decide +kernel
theorem d_M_reasonAlone_15 : decode prog_7_method_13_code 15 = .ok (.if_icmp .ne 7, 3) := by decide +kernel
theorem d_M_reasonAlone_18 : decode prog_7_method_13_code 18 = .ok (.iconst 1, 1) := by decide +kernel
theorem d_M_reasonAlone_19 : decode prog_7_method_13_code 19 = .ok (.goto 4, 3) := by decide +kernel
theorem d_M_reasonAlone_22 : decode prog_7_method_13_code 22 = .ok (.iconst 0, 1) := by decide +kernel
theorem d_M_reasonAlone_23 : decode prog_7_method_13_code 23 = .ok (.bastore, 1) := by decide +kernel
theorem d_M_reasonAlone_24 : decode prog_7_method_13_code 24 = .ok (.iinc 3 1, 3) := by decide +kernel
theorem d_M_reasonAlone_27 : decode prog_7_method_13_code 27 = .ok (.goto (-25), 3) := by decide +kernel
theorem d_M_reasonAlone_30 : decode prog_7_method_13_code 30 = .ok (.aload_n 0, 1) := by decide +kernel
theorem d_M_reasonAlone_31 : decode prog_7_method_13_code 31 = .ok (.iload_n 2, 1) := by decide +kernel
theorem d_M_reasonAlone_32 : decode prog_7_method_13_code 32 = .ok (.invokevirtual 93, 3) := by decide +kernel
theorem d_M_reasonAlone_35 : decode prog_7_method_13_code 35 = .ok (.ireturn, 1) := by decide +kernel
theorem d_M_reason_0 : decode prog_7_method_12_code 0 = .ok (.aload_n 0, 1) := by decide +kernel
theorem d_M_reason_1 : decode prog_7_method_12_code 1 = .ok (.iconst 0, 1) := by decide +kernel
theorem d_M_reason_2 : decode prog_7_method_12_code 2 = .ok (.putfield 90, 3) := by decide +kernel
theorem d_M_reason_5 : decode prog_7_method_12_code 5 = .ok (.iconst 0, 1) := by decide +kernel
theorem d_M_reason_6 : decode prog_7_method_12_code 6 = .ok (.istore_n 2, 1) := by decide +kernel
theorem d_M_reason_7 : decode prog_7_method_12_code 7 = .ok (.iload_n 2, 1) := by decide +kernel
theorem d_M_reason_8 : decode prog_7_method_12_code 8 = .ok (.bipush 20, 2) := by decide +kernel
theorem d_M_reason_10 : decode prog_7_method_12_code 10 = .ok (.if_icmp .gt 16, 3) := by decide +kernel
theorem d_M_reason_13 : decode prog_7_method_12_code 13 = .ok (.aload_n 0, 1) := by decide +kernel
theorem d_M_reason_14 : decode prog_7_method_12_code 14 = .ok (.getfield 45, 3) := by decide +kernel
theorem d_M_reason_17 : decode prog_7_method_12_code 17 = .ok (.iload_n 2, 1) := by decide +kernel
theorem d_M_reason_18 : decode prog_7_method_12_code 18 = .ok (.iconst (-1), 1) := by decide +kernel
theorem d_M_reason_19 : decode prog_7_method_12_code 19 = .ok (.iastore, 1) := by decide +kernel
theorem d_M_reason_20 : decode prog_7_method_12_code 20 = .ok (.iinc 2 1, 3) := by decide +kernel
theorem d_M_reason_23 : decode prog_7_method_12_code 23 = .ok (.goto (-16), 3) := by decide +kernel
theorem d_M_reason_26 : decode prog_7_method_12_code 26 = .ok (.aload_n 0, 1) := by decide +kernel
theorem d_M_reason_27 : decode prog_7_method_12_code 27 = .ok (.getfield 42, 3) := by decide +kernel
theorem d_M_reason_30 : decode prog_7_method_12_code 30 = .ok (.iload_n 1, 1) := by decide +kernel
theorem d_M_reason_31 : decode prog_7_method_12_code 31 = .ok (.baload, 1) := by decide +kernel
theorem d_M_reason_32 : decode prog_7_method_12_code 32 = .ok (.ifCond .ne 176, 3) := by decide +kernel
theorem d_M_reason_35 : decode prog_7_method_12_code 35 = .ok (.aload_n 0, 1) := by decide +kernel
theorem d_M_reason_36 : decode prog_7_method_12_code 36 = .ok (.getfield 42, 3) := by decide +kernel
theorem d_M_reason_39 : decode prog_7_method_12_code 39 = .ok (.bipush 20, 2) := by decide +kernel
theorem d_M_reason_41 : decode prog_7_method_12_code 41 = .ok (.baload, 1) := by decide +kernel
theorem d_M_reason_42 : decode prog_7_method_12_code 42 = .ok (.ifCond .ne 166, 3) := by decide +kernel
theorem d_M_reason_45 : decode prog_7_method_12_code 45 = .ok (.iconst (-1), 1) := by decide +kernel
theorem d_M_reason_46 : decode prog_7_method_12_code 46 = .ok (.istore_n 2, 1) := by decide +kernel
theorem d_M_reason_47 : decode prog_7_method_12_code 47 = .ok (.aload_n 0, 1) := by decide +kernel
theorem d_M_reason_48 : decode prog_7_method_12_code 48 = .ok (.getfield 67, 3) := by decide +kernel
theorem d_M_reason_51 : decode prog_7_method_12_code 51 = .ok (.iconst 1, 1) := by decide +kernel
theorem d_M_reason_52 : decode prog_7_method_12_code 52 = .ok (.isub, 1) := by decide +kernel
theorem d_M_reason_53 : decode prog_7_method_12_code 53 = .ok (.istore_n 3, 1) := by decide +kernel
theorem d_M_reason_54 : decode prog_7_method_12_code 54 = .ok (.iload_n 3, 1) := by decide +kernel
theorem d_M_reason_55 : decode prog_7_method_12_code 55 = .ok (.ifCond .lt 87, 3) := by decide +kernel
theorem d_M_reason_58 : decode prog_7_method_12_code 58 = .ok (.aload_n 0, 1) := by decide +kernel
theorem d_M_reason_59 : decode prog_7_method_12_code 59 = .ok (.getfield 23, 3) := by decide +kernel
theorem d_M_reason_62 : decode prog_7_method_12_code 62 = .ok (.iload_n 3, 1) := by decide +kernel
theorem d_M_reason_63 : decode prog_7_method_12_code 63 = .ok (.baload, 1) := by decide +kernel
theorem d_M_reason_64 : decode prog_7_method_12_code 64 = .ok (.ifCond .eq 58, 3) := by decide +kernel
theorem d_M_reason_67 : decode prog_7_method_12_code 67 = .ok (.aload_n 0, 1) := by decide +kernel
theorem d_M_reason_68 : decode prog_7_method_12_code 68 = .ok (.getfield 42, 3) := by decide +kernel
theorem d_M_reason_71 : decode prog_7_method_12_code 71 = .ok (.aload_n 0, 1) := by decide +kernel
theorem d_M_reason_72 : decode prog_7_method_12_code 72 = .ok (.getfield 13, 3) := by decide +kernel
theorem d_M_reason_75 : decode prog_7_method_12_code 75 = .ok (.iload_n 3, 1) := by decide +kernel
theorem d_M_reason_76 : decode prog_7_method_12_code 76 = .ok (.iaload, 1) := by decide +kernel
theorem d_M_reason_77 : decode prog_7_method_12_code 77 = .ok (.baload, 1) := by decide +kernel
theorem d_M_reason_78 : decode prog_7_method_12_code 78 = .ok (.ifCond .eq 44, 3) := by decide +kernel
theorem d_M_reason_81 : decode prog_7_method_12_code 81 = .ok (.aload_n 0, 1) := by decide +kernel
theorem d_M_reason_82 : decode prog_7_method_12_code 82 = .ok (.getfield 17, 3) := by decide +kernel
theorem d_M_reason_85 : decode prog_7_method_12_code 85 = .ok (.iload_n 3, 1) := by decide +kernel
theorem d_M_reason_86 : decode prog_7_method_12_code 86 = .ok (.iaload, 1) := by decide +kernel
theorem d_M_reason_87 : decode prog_7_method_12_code 87 = .ok (.ifCond .lt 17, 3) := by decide +kernel
theorem d_M_reason_90 : decode prog_7_method_12_code 90 = .ok (.aload_n 0, 1) := by decide +kernel
theorem d_M_reason_91 : decode prog_7_method_12_code 91 = .ok (.getfield 42, 3) := by decide +kernel
theorem d_M_reason_94 : decode prog_7_method_12_code 94 = .ok (.aload_n 0, 1) := by decide +kernel
theorem d_M_reason_95 : decode prog_7_method_12_code 95 = .ok (.getfield 17, 3) := by decide +kernel
theorem d_M_reason_98 : decode prog_7_method_12_code 98 = .ok (.iload_n 3, 1) := by decide +kernel
theorem d_M_reason_99 : decode prog_7_method_12_code 99 = .ok (.iaload, 1) := by decide +kernel
theorem d_M_reason_100 : decode prog_7_method_12_code 100 = .ok (.baload, 1) := by decide +kernel
theorem d_M_reason_101 : decode prog_7_method_12_code 101 = .ok (.ifCond .eq 21, 3) := by decide +kernel
theorem d_M_reason_104 : decode prog_7_method_12_code 104 = .ok (.aload_n 0, 1) := by decide +kernel
theorem d_M_reason_105 : decode prog_7_method_12_code 105 = .ok (.getfield 42, 3) := by decide +kernel
theorem d_M_reason_108 : decode prog_7_method_12_code 108 = .ok (.aload_n 0, 1) := by decide +kernel
theorem d_M_reason_109 : decode prog_7_method_12_code 109 = .ok (.getfield 20, 3) := by decide +kernel
theorem d_M_reason_112 : decode prog_7_method_12_code 112 = .ok (.iload_n 3, 1) := by decide +kernel
theorem d_M_reason_113 : decode prog_7_method_12_code 113 = .ok (.iaload, 1) := by decide +kernel
theorem d_M_reason_114 : decode prog_7_method_12_code 114 = .ok (.baload, 1) := by decide +kernel
theorem d_M_reason_115 : decode prog_7_method_12_code 115 = .ok (.ifCond .ne 7, 3) := by decide +kernel
theorem d_M_reason_118 : decode prog_7_method_12_code 118 = .ok (.iconst 1, 1) := by decide +kernel
theorem d_M_reason_119 : decode prog_7_method_12_code 119 = .ok (.goto 4, 3) := by decide +kernel
theorem d_M_reason_122 : decode prog_7_method_12_code 122 = .ok (.iconst 0, 1) := by decide +kernel
theorem d_M_reason_123 : decode prog_7_method_12_code 123 = .ok (.istore 4, 2) := by decide +kernel
theorem d_M_reason_125 : decode prog_7_method_12_code 125 = .ok (.iload 4, 2) := by decide +kernel
theorem d_M_reason_127 : decode prog_7_method_12_code 127 = .ok (.ifCond .eq 7, 3) := by decide +kernel
theorem d_M_reason_130 : decode prog_7_method_12_code 130 = .ok (.iload_n 3, 1) := by decide +kernel
theorem d_M_reason_131 : decode prog_7_method_12_code 131 = .ok (.goto 4, 3) := by decide +kernel
theorem d_M_reason_134 : decode prog_7_method_12_code 134 = .ok (.iload_n 2, 1) := by decide +kernel
theorem d_M_reason_135 : decode prog_7_method_12_code 135 = .ok (.istore_n 2, 1) := by decide +kernel
theorem d_M_reason_136 : decode prog_7_method_12_code 136 = .ok (.iinc 3 (-1), 3) := by decide +kernel
theorem d_M_reason_139 : decode prog_7_method_12_code 139 = .ok (.goto (-85), 3) := by decide +kernel
theorem d_M_reason_142 : decode prog_7_method_12_code 142 = .ok (.iload_n 2, 1) := by decide +kernel
theorem d_M_reason_143 : decode prog_7_method_12_code 143 = .ok (.ifCond .ge 5, 3) := by decide +kernel
theorem d_M_reason_146 : decode prog_7_method_12_code 146 = .ok (.iconst 0, 1) := by decide +kernel
theorem d_M_reason_147 : decode prog_7_method_12_code 147 = .ok (.ireturn, 1) := by decide +kernel
theorem d_M_reason_148 : decode prog_7_method_12_code 148 = .ok (.aload_n 0, 1) := by decide +kernel
theorem d_M_reason_149 : decode prog_7_method_12_code 149 = .ok (.getfield 90, 3) := by decide +kernel
theorem d_M_reason_152 : decode prog_7_method_12_code 152 = .ok (.aload_n 0, 1) := by decide +kernel
theorem d_M_reason_153 : decode prog_7_method_12_code 153 = .ok (.getfield 7, 3) := by decide +kernel
theorem d_M_reason_156 : decode prog_7_method_12_code 156 = .ok (.if_icmp .ne 5, 3) := by decide +kernel
theorem d_M_reason_159 : decode prog_7_method_12_code 159 = .ok (.iconst 2, 1) := by decide +kernel
theorem d_M_reason_160 : decode prog_7_method_12_code 160 = .ok (.ireturn, 1) := by decide +kernel
theorem d_M_reason_161 : decode prog_7_method_12_code 161 = .ok (.aload_n 0, 1) := by decide +kernel
theorem d_M_reason_162 : decode prog_7_method_12_code 162 = .ok (.getfield 48, 3) := by decide +kernel
theorem d_M_reason_165 : decode prog_7_method_12_code 165 = .ok (.aload_n 0, 1) := by decide +kernel
theorem d_M_reason_166 : decode prog_7_method_12_code 166 = .ok (.getfield 90, 3) := by decide +kernel
theorem d_M_reason_169 : decode prog_7_method_12_code 169 = .ok (.iload_n 2, 1) := by decide +kernel
theorem d_M_reason_170 : decode prog_7_method_12_code 170 = .ok (.iastore, 1) := by decide +kernel
theorem d_M_reason_171 : decode prog_7_method_12_code 171 = .ok (.aload_n 0, 1) := by decide +kernel
theorem d_M_reason_172 : decode prog_7_method_12_code 172 = .ok (.dup, 1) := by decide +kernel
theorem d_M_reason_173 : decode prog_7_method_12_code 173 = .ok (.getfield 90, 3) := by decide +kernel
theorem d_M_reason_176 : decode prog_7_method_12_code 176 = .ok (.iconst 1, 1) := by decide +kernel
theorem d_M_reason_177 : decode prog_7_method_12_code 177 = .ok (.iadd, 1) := by decide +kernel
theorem d_M_reason_178 : decode prog_7_method_12_code 178 = .ok (.putfield 90, 3) := by decide +kernel
theorem d_M_reason_181 : decode prog_7_method_12_code 181 = .ok (.aload_n 0, 1) := by decide +kernel
theorem d_M_reason_182 : decode prog_7_method_12_code 182 = .ok (.getfield 42, 3) := by decide +kernel
theorem d_M_reason_185 : decode prog_7_method_12_code 185 = .ok (.aload_n 0, 1) := by decide +kernel
theorem d_M_reason_186 : decode prog_7_method_12_code 186 = .ok (.getfield 20, 3) := by decide +kernel
theorem d_M_reason_189 : decode prog_7_method_12_code 189 = .ok (.iload_n 2, 1) := by decide +kernel
theorem d_M_reason_190 : decode prog_7_method_12_code 190 = .ok (.iaload, 1) := by decide +kernel
theorem d_M_reason_191 : decode prog_7_method_12_code 191 = .ok (.iconst 1, 1) := by decide +kernel
theorem d_M_reason_192 : decode prog_7_method_12_code 192 = .ok (.bastore, 1) := by decide +kernel
theorem d_M_reason_193 : decode prog_7_method_12_code 193 = .ok (.aload_n 0, 1) := by decide +kernel
theorem d_M_reason_194 : decode prog_7_method_12_code 194 = .ok (.getfield 45, 3) := by decide +kernel
theorem d_M_reason_197 : decode prog_7_method_12_code 197 = .ok (.aload_n 0, 1) := by decide +kernel
theorem d_M_reason_198 : decode prog_7_method_12_code 198 = .ok (.getfield 20, 3) := by decide +kernel
theorem d_M_reason_201 : decode prog_7_method_12_code 201 = .ok (.iload_n 2, 1) := by decide +kernel
theorem d_M_reason_202 : decode prog_7_method_12_code 202 = .ok (.iaload, 1) := by decide +kernel
theorem d_M_reason_203 : decode prog_7_method_12_code 203 = .ok (.iload_n 2, 1) := by decide +kernel
theorem d_M_reason_204 : decode prog_7_method_12_code 204 = .ok (.iastore, 1) := by decide +kernel
theorem d_M_reason_205 : decode prog_7_method_12_code 205 = .ok (.goto (-179), 3) := by decide +kernel
theorem d_M_reason_208 : decode prog_7_method_12_code 208 = .ok (.iconst 1, 1) := by decide +kernel
theorem d_M_reason_209 : decode prog_7_method_12_code 209 = .ok (.ireturn, 1) := by decide +kernel
theorem d_M_run_0 : decode prog_7_method_30_code 0 = .ok (.aload_n 0, 1) := by decide +kernel
theorem d_M_run_1 : decode prog_7_method_30_code 1 = .ok (.iconst 0, 1) := by decide +kernel
theorem d_M_run_2 : decode prog_7_method_30_code 2 = .ok (.putfield 125, 3) := by decide +kernel
theorem d_M_run_5 : decode prog_7_method_30_code 5 = .ok (.iconst 0, 1) := by decide +kernel
theorem d_M_run_6 : decode prog_7_method_30_code 6 = .ok (.istore_n 1, 1) := by decide +kernel
theorem d_M_run_7 : decode prog_7_method_30_code 7 = .ok (.iload_n 1, 1) := by decide +kernel
theorem d_M_run_8 : decode prog_7_method_30_code 8 = .ok (.bipush 20, 2) := by decide +kernel
theorem d_M_run_10 : decode prog_7_method_30_code 10 = .ok (.if_icmp .ge 16, 3) := by decide +kernel
theorem d_M_run_13 : decode prog_7_method_30_code 13 = .ok (.aload_n 0, 1) := by decide +kernel
theorem d_M_run_14 : decode prog_7_method_30_code 14 = .ok (.getfield 36, 3) := by decide +kernel
theorem d_M_run_17 : decode prog_7_method_30_code 17 = .ok (.iload_n 1, 1) := by decide +kernel
theorem d_M_run_18 : decode prog_7_method_30_code 18 = .ok (.iconst 0, 1) := by decide +kernel
theorem d_M_run_19 : decode prog_7_method_30_code 19 = .ok (.bastore, 1) := by decide +kernel
theorem d_M_run_20 : decode prog_7_method_30_code 20 = .ok (.iinc 1 1, 3) := by decide +kernel
theorem d_M_run_23 : decode prog_7_method_30_code 23 = .ok (.goto (-16), 3) := by decide +kernel
theorem d_M_run_26 : decode prog_7_method_30_code 26 = .ok (.iconst 0, 1) := by decide +kernel
theorem d_M_run_27 : decode prog_7_method_30_code 27 = .ok (.istore_n 1, 1) := by decide +kernel
theorem d_M_run_28 : decode prog_7_method_30_code 28 = .ok (.iload_n 1, 1) := by decide +kernel
theorem d_M_run_29 : decode prog_7_method_30_code 29 = .ok (.aload_n 0, 1) := by decide +kernel
theorem d_M_run_30 : decode prog_7_method_30_code 30 = .ok (.getfield 60, 3) := by decide +kernel
theorem d_M_run_33 : decode prog_7_method_30_code 33 = .ok (.if_icmp .ge 38, 3) := by decide +kernel
theorem d_M_run_36 : decode prog_7_method_30_code 36 = .ok (.aload_n 0, 1) := by decide +kernel
theorem d_M_run_37 : decode prog_7_method_30_code 37 = .ok (.iload_n 1, 1) := by decide +kernel
theorem d_M_run_38 : decode prog_7_method_30_code 38 = .ok (.bipush 20, 2) := by decide +kernel
theorem d_M_run_40 : decode prog_7_method_30_code 40 = .ok (.invokevirtual 138, 3) := by decide +kernel
theorem d_M_run_43 : decode prog_7_method_30_code 43 = .ok (.ifCond .ne 22, 3) := by decide +kernel
theorem d_M_run_46 : decode prog_7_method_30_code 46 = .ok (.aload_n 0, 1) := by decide +kernel
theorem d_M_run_47 : decode prog_7_method_30_code 47 = .ok (.iload_n 1, 1) := by decide +kernel
theorem d_M_run_48 : decode prog_7_method_30_code 48 = .ok (.iconst 1, 1) := by decide +kernel
theorem d_M_run_49 : decode prog_7_method_30_code 49 = .ok (.invokevirtual 141, 3) := by decide +kernel
theorem d_M_run_52 : decode prog_7_method_30_code 52 = .ok (.aload_n 0, 1) := by decide +kernel
theorem d_M_run_53 : decode prog_7_method_30_code 53 = .ok (.iload_n 1, 1) := by decide +kernel
theorem d_M_run_54 : decode prog_7_method_30_code 54 = .ok (.iconst 0, 1) := by decide +kernel
theorem d_M_run_55 : decode prog_7_method_30_code 55 = .ok (.invokevirtual 141, 3) := by decide +kernel
theorem d_M_run_58 : decode prog_7_method_30_code 58 = .ok (.aload_n 0, 1) := by decide +kernel
theorem d_M_run_59 : decode prog_7_method_30_code 59 = .ok (.getfield 36, 3) := by decide +kernel
theorem d_M_run_62 : decode prog_7_method_30_code 62 = .ok (.iload_n 1, 1) := by decide +kernel
theorem d_M_run_63 : decode prog_7_method_30_code 63 = .ok (.iconst 1, 1) := by decide +kernel
theorem d_M_run_64 : decode prog_7_method_30_code 64 = .ok (.bastore, 1) := by decide +kernel
theorem d_M_run_65 : decode prog_7_method_30_code 65 = .ok (.iinc 1 1, 3) := by decide +kernel
theorem d_M_run_68 : decode prog_7_method_30_code 68 = .ok (.goto (-40), 3) := by decide +kernel
theorem d_M_run_71 : decode prog_7_method_30_code 71 = .ok (.aload_n 0, 1) := by decide +kernel
theorem d_M_run_72 : decode prog_7_method_30_code 72 = .ok (.iconst 1, 1) := by decide +kernel
theorem d_M_run_73 : decode prog_7_method_30_code 73 = .ok (.putfield 97, 3) := by decide +kernel
theorem d_M_run_76 : decode prog_7_method_30_code 76 = .ok (.aload_n 0, 1) := by decide +kernel
theorem d_M_run_77 : decode prog_7_method_30_code 77 = .ok (.dup, 1) := by decide +kernel
theorem d_M_run_78 : decode prog_7_method_30_code 78 = .ok (.getfield 145, 3) := by decide +kernel
theorem d_M_run_81 : decode prog_7_method_30_code 81 = .ok (.aload_n 0, 1) := by decide +kernel
theorem d_M_run_82 : decode prog_7_method_30_code 82 = .ok (.getfield 125, 3) := by decide +kernel
theorem d_M_run_85 : decode prog_7_method_30_code 85 = .ok (.iadd, 1) := by decide +kernel
theorem d_M_run_86 : decode prog_7_method_30_code 86 = .ok (.putfield 145, 3) := by decide +kernel
theorem d_M_run_89 : decode prog_7_method_30_code 89 = .ok (.aload_n 0, 1) := by decide +kernel
theorem d_M_run_90 : decode prog_7_method_30_code 90 = .ok (.getfield 125, 3) := by decide +kernel
theorem d_M_run_93 : decode prog_7_method_30_code 93 = .ok (.ireturn, 1) := by decide +kernel
theorem d_M_look_0 : decode prog_7_method_25_code 0 = .ok (.aload_n 0, 1) := by decide +kernel
theorem d_M_look_1 : decode prog_7_method_25_code 1 = .ok (.getfield 30, 3) := by decide +kernel
theorem d_M_look_4 : decode prog_7_method_25_code 4 = .ok (.bipush 21, 2) := by decide +kernel
theorem d_M_look_6 : decode prog_7_method_25_code 6 = .ok (.iload_n 1, 1) := by decide +kernel
theorem d_M_look_7 : decode prog_7_method_25_code 7 = .ok (.imul, 1) := by decide +kernel
theorem d_M_look_8 : decode prog_7_method_25_code 8 = .ok (.iload_n 2, 1) := by decide +kernel
theorem d_M_look_9 : decode prog_7_method_25_code 9 = .ok (.iadd, 1) := by decide +kernel
theorem d_M_look_10 : decode prog_7_method_25_code 10 = .ok (.iaload, 1) := by decide +kernel
theorem d_M_look_11 : decode prog_7_method_25_code 11 = .ok (.iconst 3, 1) := by decide +kernel
theorem d_M_look_12 : decode prog_7_method_25_code 12 = .ok (.if_icmp .ne 34, 3) := by decide +kernel
theorem d_M_look_15 : decode prog_7_method_25_code 15 = .ok (.aload_n 0, 1) := by decide +kernel
theorem d_M_look_16 : decode prog_7_method_25_code 16 = .ok (.dup, 1) := by decide +kernel
theorem d_M_look_17 : decode prog_7_method_25_code 17 = .ok (.getfield 125, 3) := by decide +kernel
theorem d_M_look_20 : decode prog_7_method_25_code 20 = .ok (.iconst 1, 1) := by decide +kernel
theorem d_M_look_21 : decode prog_7_method_25_code 21 = .ok (.iadd, 1) := by decide +kernel
theorem d_M_look_22 : decode prog_7_method_25_code 22 = .ok (.putfield 125, 3) := by decide +kernel
theorem d_M_look_25 : decode prog_7_method_25_code 25 = .ok (.aload_n 0, 1) := by decide +kernel
theorem d_M_look_26 : decode prog_7_method_25_code 26 = .ok (.getfield 30, 3) := by decide +kernel
theorem d_M_look_29 : decode prog_7_method_25_code 29 = .ok (.bipush 21, 2) := by decide +kernel
theorem d_M_look_31 : decode prog_7_method_25_code 31 = .ok (.iload_n 1, 1) := by decide +kernel
theorem d_M_look_32 : decode prog_7_method_25_code 32 = .ok (.imul, 1) := by decide +kernel
theorem d_M_look_33 : decode prog_7_method_25_code 33 = .ok (.iload_n 2, 1) := by decide +kernel
theorem d_M_look_34 : decode prog_7_method_25_code 34 = .ok (.iadd, 1) := by decide +kernel
theorem d_M_look_35 : decode prog_7_method_25_code 35 = .ok (.aload_n 0, 1) := by decide +kernel
theorem d_M_look_36 : decode prog_7_method_25_code 36 = .ok (.iload_n 1, 1) := by decide +kernel
theorem d_M_look_37 : decode prog_7_method_25_code 37 = .ok (.iload_n 2, 1) := by decide +kernel
theorem d_M_look_38 : decode prog_7_method_25_code 38 = .ok (.invokevirtual 121, 3) := by decide +kernel
theorem d_M_look_41 : decode prog_7_method_25_code 41 = .ok (.iastore, 1) := by decide +kernel
theorem d_M_look_42 : decode prog_7_method_25_code 42 = .ok (.aload_n 0, 1) := by decide +kernel
theorem d_M_look_43 : decode prog_7_method_25_code 43 = .ok (.invokevirtual 101, 3) := by decide +kernel
theorem d_M_look_46 : decode prog_7_method_25_code 46 = .ok (.aload_n 0, 1) := by decide +kernel
theorem d_M_look_47 : decode prog_7_method_25_code 47 = .ok (.getfield 30, 3) := by decide +kernel
theorem d_M_look_50 : decode prog_7_method_25_code 50 = .ok (.bipush 21, 2) := by decide +kernel
theorem d_M_look_52 : decode prog_7_method_25_code 52 = .ok (.iload_n 1, 1) := by decide +kernel
theorem d_M_look_53 : decode prog_7_method_25_code 53 = .ok (.imul, 1) := by decide +kernel
theorem d_M_look_54 : decode prog_7_method_25_code 54 = .ok (.iload_n 2, 1) := by decide +kernel
theorem d_M_look_55 : decode prog_7_method_25_code 55 = .ok (.iadd, 1) := by decide +kernel
theorem d_M_look_56 : decode prog_7_method_25_code 56 = .ok (.iaload, 1) := by decide +kernel
theorem d_M_look_57 : decode prog_7_method_25_code 57 = .ok (.iconst 1, 1) := by decide +kernel
theorem d_M_look_58 : decode prog_7_method_25_code 58 = .ok (.if_icmp .ne 7, 3) := by decide +kernel
theorem d_M_look_61 : decode prog_7_method_25_code 61 = .ok (.iconst 1, 1) := by decide +kernel
theorem d_M_look_62 : decode prog_7_method_25_code 62 = .ok (.goto 4, 3) := by decide +kernel
theorem d_M_look_65 : decode prog_7_method_25_code 65 = .ok (.iconst 0, 1) := by decide +kernel
theorem d_M_look_66 : decode prog_7_method_25_code 66 = .ok (.ireturn, 1) := by decide +kernel
theorem d_M_go_0 : decode prog_7_method_29_code 0 = .ok (.iconst 0, 1) := by decide +kernel
theorem d_M_go_1 : decode prog_7_method_29_code 1 = .ok (.istore_n 3, 1) := by decide +kernel
theorem d_M_go_2 : decode prog_7_method_29_code 2 = .ok (.iload_n 3, 1) := by decide +kernel
theorem d_M_go_3 : decode prog_7_method_29_code 3 = .ok (.bipush 20, 2) := by decide +kernel
theorem d_M_go_5 : decode prog_7_method_29_code 5 = .ok (.if_icmp .ge 16, 3) := by decide +kernel
theorem d_M_go_8 : decode prog_7_method_29_code 8 = .ok (.aload_n 0, 1) := by decide +kernel
theorem d_M_go_9 : decode prog_7_method_29_code 9 = .ok (.getfield 39, 3) := by decide +kernel
theorem d_M_go_12 : decode prog_7_method_29_code 12 = .ok (.iload_n 3, 1) := by decide +kernel
theorem d_M_go_13 : decode prog_7_method_29_code 13 = .ok (.iconst 0, 1) := by decide +kernel
theorem d_M_go_14 : decode prog_7_method_29_code 14 = .ok (.bastore, 1) := by decide +kernel
end
section
theorem d_M_go_15 : decode prog_7_method_29_code 15 = .ok (.iinc 3 1, 3) := by decide +kernel
theorem d_M_go_18 : decode prog_7_method_29_code 18 = .ok (.goto (-16), 3) := by decide +kernel
theorem d_M_go_21 : decode prog_7_method_29_code 21 = .ok (.aload_n 0, 1) := by decide +kernel
theorem d_M_go_22 : decode prog_7_method_29_code 22 = .ok (.iload_n 1, 1) := by decide +kernel
theorem d_M_go_23 : decode prog_7_method_29_code 23 = .ok (.iload_n 2, 1) := by decide +kernel
theorem d_M_go_24 : decode prog_7_method_29_code 24 = .ok (.invokevirtual 134, 3) := by decide +kernel
theorem d_M_go_27 : decode prog_7_method_29_code 27 = .ok (.istore_n 3, 1) := by decide +kernel
theorem d_M_go_28 : decode prog_7_method_29_code 28 = .ok (.iload_n 3, 1) := by decide +kernel
theorem d_M_go_29 : decode prog_7_method_29_code 29 = .ok (.ifCond .lt 41, 3) := by decide +kernel
theorem d_M_go_32 : decode prog_7_method_29_code 32 = .ok (.aload_n 0, 1) := by decide +kernel
theorem d_M_go_33 : decode prog_7_method_29_code 33 = .ok (.getfield 39, 3) := by decide +kernel
theorem d_M_go_36 : decode prog_7_method_29_code 36 = .ok (.iload_n 3, 1) := by decide +kernel
theorem d_M_go_37 : decode prog_7_method_29_code 37 = .ok (.iconst 1, 1) := by decide +kernel
theorem d_M_go_38 : decode prog_7_method_29_code 38 = .ok (.bastore, 1) := by decide +kernel
theorem d_M_go_39 : decode prog_7_method_29_code 39 = .ok (.iload_n 2, 1) := by decide +kernel
theorem d_M_go_40 : decode prog_7_method_29_code 40 = .ok (.ifCond .eq 12, 3) := by decide +kernel
theorem d_M_go_43 : decode prog_7_method_29_code 43 = .ok (.aload_n 0, 1) := by decide +kernel
theorem d_M_go_44 : decode prog_7_method_29_code 44 = .ok (.iload_n 1, 1) := by decide +kernel
theorem d_M_go_45 : decode prog_7_method_29_code 45 = .ok (.iload_n 3, 1) := by decide +kernel
theorem d_M_go_46 : decode prog_7_method_29_code 46 = .ok (.invokevirtual 138, 3) := by decide +kernel
theorem d_M_go_49 : decode prog_7_method_29_code 49 = .ok (.goto 9, 3) := by decide +kernel
theorem d_M_go_52 : decode prog_7_method_29_code 52 = .ok (.aload_n 0, 1) := by decide +kernel
theorem d_M_go_53 : decode prog_7_method_29_code 53 = .ok (.iload_n 3, 1) := by decide +kernel
theorem d_M_go_54 : decode prog_7_method_29_code 54 = .ok (.iload_n 1, 1) := by decide +kernel
theorem d_M_go_55 : decode prog_7_method_29_code 55 = .ok (.invokevirtual 138, 3) := by decide +kernel
theorem d_M_go_58 : decode prog_7_method_29_code 58 = .ok (.istore 4, 2) := by decide +kernel
theorem d_M_go_60 : decode prog_7_method_29_code 60 = .ok (.aload_n 0, 1) := by decide +kernel
theorem d_M_go_61 : decode prog_7_method_29_code 61 = .ok (.iload_n 1, 1) := by decide +kernel
theorem d_M_go_62 : decode prog_7_method_29_code 62 = .ok (.iload_n 2, 1) := by decide +kernel
theorem d_M_go_63 : decode prog_7_method_29_code 63 = .ok (.invokevirtual 134, 3) := by decide +kernel
theorem d_M_go_66 : decode prog_7_method_29_code 66 = .ok (.istore_n 3, 1) := by decide +kernel
theorem d_M_go_67 : decode prog_7_method_29_code 67 = .ok (.goto (-39), 3) := by decide +kernel
theorem d_M_go_70 : decode prog_7_method_29_code 70 = .ok (.return_, 1) := by decide +kernel
theorem d_M_nextFor_0 : decode prog_7_method_28_code 0 = .ok (.iconst (-1), 1) := by decide +kernel
theorem d_M_nextFor_1 : decode prog_7_method_28_code 1 = .ok (.istore_n 3, 1) := by decide +kernel
theorem d_M_nextFor_2 : decode prog_7_method_28_code 2 = .ok (.aload_n 0, 1) := by decide +kernel
theorem d_M_nextFor_3 : decode prog_7_method_28_code 3 = .ok (.getfield 60, 3) := by decide +kernel
theorem d_M_nextFor_6 : decode prog_7_method_28_code 6 = .ok (.iconst 1, 1) := by decide +kernel
theorem d_M_nextFor_7 : decode prog_7_method_28_code 7 = .ok (.isub, 1) := by decide +kernel
theorem d_M_nextFor_8 : decode prog_7_method_28_code 8 = .ok (.istore 4, 2) := by decide +kernel
theorem d_M_nextFor_10 : decode prog_7_method_28_code 10 = .ok (.iload 4, 2) := by decide +kernel
theorem d_M_nextFor_12 : decode prog_7_method_28_code 12 = .ok (.ifCond .lt 175, 3) := by decide +kernel
theorem d_M_nextFor_15 : decode prog_7_method_28_code 15 = .ok (.aload_n 0, 1) := by decide +kernel
theorem d_M_nextFor_16 : decode prog_7_method_28_code 16 = .ok (.getfield 36, 3) := by decide +kernel
theorem d_M_nextFor_19 : decode prog_7_method_28_code 19 = .ok (.iload 4, 2) := by decide +kernel
theorem d_M_nextFor_21 : decode prog_7_method_28_code 21 = .ok (.baload, 1) := by decide +kernel
theorem d_M_nextFor_22 : decode prog_7_method_28_code 22 = .ok (.ifCond .eq 17, 3) := by decide +kernel
theorem d_M_nextFor_25 : decode prog_7_method_28_code 25 = .ok (.aload_n 0, 1) := by decide +kernel
theorem d_M_nextFor_26 : decode prog_7_method_28_code 26 = .ok (.getfield 39, 3) := by decide +kernel
theorem d_M_nextFor_29 : decode prog_7_method_28_code 29 = .ok (.iload 4, 2) := by decide +kernel
theorem d_M_nextFor_31 : decode prog_7_method_28_code 31 = .ok (.baload, 1) := by decide +kernel
theorem d_M_nextFor_32 : decode prog_7_method_28_code 32 = .ok (.ifCond .ne 7, 3) := by decide +kernel
theorem d_M_nextFor_35 : decode prog_7_method_28_code 35 = .ok (.iconst 1, 1) := by decide +kernel
theorem d_M_nextFor_36 : decode prog_7_method_28_code 36 = .ok (.goto 4, 3) := by decide +kernel
theorem d_M_nextFor_39 : decode prog_7_method_28_code 39 = .ok (.iconst 0, 1) := by decide +kernel
theorem d_M_nextFor_40 : decode prog_7_method_28_code 40 = .ok (.istore 5, 2) := by decide +kernel
theorem d_M_nextFor_42 : decode prog_7_method_28_code 42 = .ok (.iconst 0, 1) := by decide +kernel
theorem d_M_nextFor_43 : decode prog_7_method_28_code 43 = .ok (.istore 6, 2) := by decide +kernel
theorem d_M_nextFor_45 : decode prog_7_method_28_code 45 = .ok (.iload 6, 2) := by decide +kernel
theorem d_M_nextFor_47 : decode prog_7_method_28_code 47 = .ok (.aload_n 0, 1) := by decide +kernel
theorem d_M_nextFor_48 : decode prog_7_method_28_code 48 = .ok (.getfield 60, 3) := by decide +kernel
theorem d_M_nextFor_51 : decode prog_7_method_28_code 51 = .ok (.if_icmp .ge 118, 3) := by decide +kernel
theorem d_M_nextFor_54 : decode prog_7_method_28_code 54 = .ok (.iload 5, 2) := by decide +kernel
theorem d_M_nextFor_56 : decode prog_7_method_28_code 56 = .ok (.ifCond .eq 113, 3) := by decide +kernel
theorem d_M_nextFor_59 : decode prog_7_method_28_code 59 = .ok (.iload_n 2, 1) := by decide +kernel
theorem d_M_nextFor_60 : decode prog_7_method_28_code 60 = .ok (.ifCond .eq 34, 3) := by decide +kernel
theorem d_M_nextFor_63 : decode prog_7_method_28_code 63 = .ok (.aload_n 0, 1) := by decide +kernel
theorem d_M_nextFor_64 : decode prog_7_method_28_code 64 = .ok (.iload 4, 2) := by decide +kernel
theorem d_M_nextFor_66 : decode prog_7_method_28_code 66 = .ok (.iload 6, 2) := by decide +kernel
theorem d_M_nextFor_68 : decode prog_7_method_28_code 68 = .ok (.invokevirtual 131, 3) := by decide +kernel
theorem d_M_nextFor_71 : decode prog_7_method_28_code 71 = .ok (.ifCond .eq 13, 3) := by decide +kernel
theorem d_M_nextFor_74 : decode prog_7_method_28_code 74 = .ok (.aload_n 0, 1) := by decide +kernel
theorem d_M_nextFor_75 : decode prog_7_method_28_code 75 = .ok (.iload_n 1, 1) := by decide +kernel
theorem d_M_nextFor_76 : decode prog_7_method_28_code 76 = .ok (.iload 6, 2) := by decide +kernel
theorem d_M_nextFor_78 : decode prog_7_method_28_code 78 = .ok (.invokevirtual 77, 3) := by decide +kernel
theorem d_M_nextFor_81 : decode prog_7_method_28_code 81 = .ok (.ifCond .eq 7, 3) := by decide +kernel
theorem d_M_nextFor_84 : decode prog_7_method_28_code 84 = .ok (.iconst 1, 1) := by decide +kernel
theorem d_M_nextFor_85 : decode prog_7_method_28_code 85 = .ok (.goto 4, 3) := by decide +kernel
theorem d_M_nextFor_88 : decode prog_7_method_28_code 88 = .ok (.iconst 0, 1) := by decide +kernel
theorem d_M_nextFor_89 : decode prog_7_method_28_code 89 = .ok (.istore 5, 2) := by decide +kernel
theorem d_M_nextFor_91 : decode prog_7_method_28_code 91 = .ok (.goto 72, 3) := by decide +kernel
theorem d_M_nextFor_94 : decode prog_7_method_28_code 94 = .ok (.aload_n 0, 1) := by decide +kernel
theorem d_M_nextFor_95 : decode prog_7_method_28_code 95 = .ok (.getfield 36, 3) := by decide +kernel
theorem d_M_nextFor_98 : decode prog_7_method_28_code 98 = .ok (.iload 6, 2) := by decide +kernel
theorem d_M_nextFor_100 : decode prog_7_method_28_code 100 = .ok (.baload, 1) := by decide +kernel
theorem d_M_nextFor_101 : decode prog_7_method_28_code 101 = .ok (.ifCond .eq 24, 3) := by decide +kernel
theorem d_M_nextFor_104 : decode prog_7_method_28_code 104 = .ok (.aload_n 0, 1) := by decide +kernel
theorem d_M_nextFor_105 : decode prog_7_method_28_code 105 = .ok (.iload_n 1, 1) := by decide +kernel
theorem d_M_nextFor_106 : decode prog_7_method_28_code 106 = .ok (.iload 6, 2) := by decide +kernel
theorem d_M_nextFor_108 : decode prog_7_method_28_code 108 = .ok (.invokevirtual 77, 3) := by decide +kernel
theorem d_M_nextFor_111 : decode prog_7_method_28_code 111 = .ok (.ifCond .eq 14, 3) := by decide +kernel
theorem d_M_nextFor_114 : decode prog_7_method_28_code 114 = .ok (.aload_n 0, 1) := by decide +kernel
theorem d_M_nextFor_115 : decode prog_7_method_28_code 115 = .ok (.iload 4, 2) := by decide +kernel
theorem d_M_nextFor_117 : decode prog_7_method_28_code 117 = .ok (.iload 6, 2) := by decide +kernel
theorem d_M_nextFor_119 : decode prog_7_method_28_code 119 = .ok (.invokevirtual 77, 3) := by decide +kernel
theorem d_M_nextFor_122 : decode prog_7_method_28_code 122 = .ok (.ifCond .eq 38, 3) := by decide +kernel
theorem d_M_nextFor_125 : decode prog_7_method_28_code 125 = .ok (.aload_n 0, 1) := by decide +kernel
theorem d_M_nextFor_126 : decode prog_7_method_28_code 126 = .ok (.getfield 36, 3) := by decide +kernel
theorem d_M_nextFor_129 : decode prog_7_method_28_code 129 = .ok (.iload 6, 2) := by decide +kernel
theorem d_M_nextFor_131 : decode prog_7_method_28_code 131 = .ok (.baload, 1) := by decide +kernel
theorem d_M_nextFor_132 : decode prog_7_method_28_code 132 = .ok (.ifCond .eq 24, 3) := by decide +kernel
theorem d_M_nextFor_135 : decode prog_7_method_28_code 135 = .ok (.aload_n 0, 1) := by decide +kernel
theorem d_M_nextFor_136 : decode prog_7_method_28_code 136 = .ok (.iload 6, 2) := by decide +kernel
theorem d_M_nextFor_138 : decode prog_7_method_28_code 138 = .ok (.iload 4, 2) := by decide +kernel
theorem d_M_nextFor_140 : decode prog_7_method_28_code 140 = .ok (.invokevirtual 131, 3) := by decide +kernel
theorem d_M_nextFor_143 : decode prog_7_method_28_code 143 = .ok (.ifCond .eq 13, 3) := by decide +kernel
theorem d_M_nextFor_146 : decode prog_7_method_28_code 146 = .ok (.aload_n 0, 1) := by decide +kernel
theorem d_M_nextFor_147 : decode prog_7_method_28_code 147 = .ok (.iload 6, 2) := by decide +kernel
theorem d_M_nextFor_149 : decode prog_7_method_28_code 149 = .ok (.iload_n 1, 1) := by decide +kernel
theorem d_M_nextFor_150 : decode prog_7_method_28_code 150 = .ok (.invokevirtual 77, 3) := by decide +kernel
theorem d_M_nextFor_153 : decode prog_7_method_28_code 153 = .ok (.ifCond .eq 7, 3) := by decide +kernel
theorem d_M_nextFor_156 : decode prog_7_method_28_code 156 = .ok (.iconst 1, 1) := by decide +kernel
theorem d_M_nextFor_157 : decode prog_7_method_28_code 157 = .ok (.goto 4, 3) := by decide +kernel
theorem d_M_nextFor_160 : decode prog_7_method_28_code 160 = .ok (.iconst 0, 1) := by decide +kernel
theorem d_M_nextFor_161 : decode prog_7_method_28_code 161 = .ok (.istore 5, 2) := by decide +kernel
theorem d_M_nextFor_163 : decode prog_7_method_28_code 163 = .ok (.iinc 6 1, 3) := by decide +kernel
theorem d_M_nextFor_166 : decode prog_7_method_28_code 166 = .ok (.goto (-121), 3) := by decide +kernel
theorem d_M_nextFor_169 : decode prog_7_method_28_code 169 = .ok (.iload 5, 2) := by decide +kernel
theorem d_M_nextFor_171 : decode prog_7_method_28_code 171 = .ok (.ifCond .eq 8, 3) := by decide +kernel
theorem d_M_nextFor_174 : decode prog_7_method_28_code 174 = .ok (.iload 4, 2) := by decide +kernel
theorem d_M_nextFor_176 : decode prog_7_method_28_code 176 = .ok (.goto 4, 3) := by decide +kernel
theorem d_M_nextFor_179 : decode prog_7_method_28_code 179 = .ok (.iload_n 3, 1) := by decide +kernel
theorem d_M_nextFor_180 : decode prog_7_method_28_code 180 = .ok (.istore_n 3, 1) := by decide +kernel
theorem d_M_nextFor_181 : decode prog_7_method_28_code 181 = .ok (.iinc 4 (-1), 3) := by decide +kernel
theorem d_M_nextFor_184 : decode prog_7_method_28_code 184 = .ok (.goto (-174), 3) := by decide +kernel
theorem d_M_nextFor_187 : decode prog_7_method_28_code 187 = .ok (.iload_n 3, 1) := by decide +kernel
theorem d_M_nextFor_188 : decode prog_7_method_28_code 188 = .ok (.ireturn, 1) := by decide +kernel
theorem d_M_isDirect_0 : decode prog_7_method_27_code 0 = .ok (.aload_n 0, 1) := by decide +kernel
theorem d_M_isDirect_1 : decode prog_7_method_27_code 1 = .ok (.getfield 36, 3) := by decide +kernel
theorem d_M_isDirect_4 : decode prog_7_method_27_code 4 = .ok (.iload_n 2, 1) := by decide +kernel
theorem d_M_isDirect_5 : decode prog_7_method_27_code 5 = .ok (.baload, 1) := by decide +kernel
theorem d_M_isDirect_6 : decode prog_7_method_27_code 6 = .ok (.ifCond .eq 16, 3) := by decide +kernel
theorem d_M_isDirect_9 : decode prog_7_method_27_code 9 = .ok (.aload_n 0, 1) := by decide +kernel
theorem d_M_isDirect_10 : decode prog_7_method_27_code 10 = .ok (.iload_n 1, 1) := by decide +kernel
theorem d_M_isDirect_11 : decode prog_7_method_27_code 11 = .ok (.iload_n 2, 1) := by decide +kernel
theorem d_M_isDirect_12 : decode prog_7_method_27_code 12 = .ok (.invokevirtual 128, 3) := by decide +kernel
theorem d_M_isDirect_15 : decode prog_7_method_27_code 15 = .ok (.ifCond .eq 7, 3) := by decide +kernel
theorem d_M_isDirect_18 : decode prog_7_method_27_code 18 = .ok (.iconst 1, 1) := by decide +kernel
theorem d_M_isDirect_19 : decode prog_7_method_27_code 19 = .ok (.goto 4, 3) := by decide +kernel
theorem d_M_isDirect_22 : decode prog_7_method_27_code 22 = .ok (.iconst 0, 1) := by decide +kernel
theorem d_M_isDirect_23 : decode prog_7_method_27_code 23 = .ok (.istore_n 3, 1) := by decide +kernel
theorem d_M_isDirect_24 : decode prog_7_method_27_code 24 = .ok (.iconst 0, 1) := by decide +kernel
theorem d_M_isDirect_25 : decode prog_7_method_27_code 25 = .ok (.istore 4, 2) := by decide +kernel
theorem d_M_isDirect_27 : decode prog_7_method_27_code 27 = .ok (.iload 4, 2) := by decide +kernel
theorem d_M_isDirect_29 : decode prog_7_method_27_code 29 = .ok (.aload_n 0, 1) := by decide +kernel
theorem d_M_isDirect_30 : decode prog_7_method_27_code 30 = .ok (.getfield 60, 3) := by decide +kernel
theorem d_M_isDirect_33 : decode prog_7_method_27_code 33 = .ok (.if_icmp .ge 49, 3) := by decide +kernel
theorem d_M_isDirect_36 : decode prog_7_method_27_code 36 = .ok (.iload_n 3, 1) := by decide +kernel
theorem d_M_isDirect_37 : decode prog_7_method_27_code 37 = .ok (.ifCond .eq 37, 3) := by decide +kernel
theorem d_M_isDirect_40 : decode prog_7_method_27_code 40 = .ok (.aload_n 0, 1) := by decide +kernel
theorem d_M_isDirect_41 : decode prog_7_method_27_code 41 = .ok (.getfield 36, 3) := by decide +kernel
theorem d_M_isDirect_44 : decode prog_7_method_27_code 44 = .ok (.iload 4, 2) := by decide +kernel
theorem d_M_isDirect_46 : decode prog_7_method_27_code 46 = .ok (.baload, 1) := by decide +kernel
theorem d_M_isDirect_47 : decode prog_7_method_27_code 47 = .ok (.ifCond .eq 23, 3) := by decide +kernel
theorem d_M_isDirect_50 : decode prog_7_method_27_code 50 = .ok (.aload_n 0, 1) := by decide +kernel
theorem d_M_isDirect_51 : decode prog_7_method_27_code 51 = .ok (.iload_n 1, 1) := by decide +kernel
theorem d_M_isDirect_52 : decode prog_7_method_27_code 52 = .ok (.iload 4, 2) := by decide +kernel
theorem d_M_isDirect_54 : decode prog_7_method_27_code 54 = .ok (.invokevirtual 128, 3) := by decide +kernel
theorem d_M_isDirect_57 : decode prog_7_method_27_code 57 = .ok (.ifCond .eq 13, 3) := by decide +kernel
theorem d_M_isDirect_60 : decode prog_7_method_27_code 60 = .ok (.aload_n 0, 1) := by decide +kernel
theorem d_M_isDirect_61 : decode prog_7_method_27_code 61 = .ok (.iload 4, 2) := by decide +kernel
theorem d_M_isDirect_63 : decode prog_7_method_27_code 63 = .ok (.iload_n 2, 1) := by decide +kernel
theorem d_M_isDirect_64 : decode prog_7_method_27_code 64 = .ok (.invokevirtual 128, 3) := by decide +kernel
theorem d_M_isDirect_67 : decode prog_7_method_27_code 67 = .ok (.ifCond .ne 7, 3) := by decide +kernel
theorem d_M_isDirect_70 : decode prog_7_method_27_code 70 = .ok (.iconst 1, 1) := by decide +kernel
theorem d_M_isDirect_71 : decode prog_7_method_27_code 71 = .ok (.goto 4, 3) := by decide +kernel
theorem d_M_isDirect_74 : decode prog_7_method_27_code 74 = .ok (.iconst 0, 1) := by decide +kernel
theorem d_M_isDirect_75 : decode prog_7_method_27_code 75 = .ok (.istore_n 3, 1) := by decide +kernel
theorem d_M_isDirect_76 : decode prog_7_method_27_code 76 = .ok (.iinc 4 1, 3) := by decide +kernel
theorem d_M_isDirect_79 : decode prog_7_method_27_code 79 = .ok (.goto (-52), 3) := by decide +kernel
theorem d_M_isDirect_82 : decode prog_7_method_27_code 82 = .ok (.iload_n 3, 1) := by decide +kernel
theorem d_M_isDirect_83 : decode prog_7_method_27_code 83 = .ok (.ireturn, 1) := by decide +kernel
theorem d_M_isUnder_0 : decode prog_7_method_26_code 0 = .ok (.aload_n 0, 1) := by decide +kernel
theorem d_M_isUnder_1 : decode prog_7_method_26_code 1 = .ok (.iload_n 1, 1) := by decide +kernel
theorem d_M_isUnder_2 : decode prog_7_method_26_code 2 = .ok (.iload_n 2, 1) := by decide +kernel
theorem d_M_isUnder_3 : decode prog_7_method_26_code 3 = .ok (.invokevirtual 77, 3) := by decide +kernel
theorem d_M_isUnder_6 : decode prog_7_method_26_code 6 = .ok (.ifCond .eq 16, 3) := by decide +kernel
theorem d_M_isUnder_9 : decode prog_7_method_26_code 9 = .ok (.aload_n 0, 1) := by decide +kernel
theorem d_M_isUnder_10 : decode prog_7_method_26_code 10 = .ok (.iload_n 2, 1) := by decide +kernel
theorem d_M_isUnder_11 : decode prog_7_method_26_code 11 = .ok (.iload_n 1, 1) := by decide +kernel
theorem d_M_isUnder_12 : decode prog_7_method_26_code 12 = .ok (.invokevirtual 77, 3) := by decide +kernel
theorem d_M_isUnder_15 : decode prog_7_method_26_code 15 = .ok (.ifCond .ne 7, 3) := by decide +kernel
theorem d_M_isUnder_18 : decode prog_7_method_26_code 18 = .ok (.iconst 1, 1) := by decide +kernel
theorem d_M_isUnder_19 : decode prog_7_method_26_code 19 = .ok (.goto 4, 3) := by decide +kernel
theorem d_M_isUnder_22 : decode prog_7_method_26_code 22 = .ok (.iconst 0, 1) := by decide +kernel
theorem d_M_isUnder_23 : decode prog_7_method_26_code 23 = .ok (.ireturn, 1) := by decide +kernel
theorem d_M_parent_0 : decode prog_7_method_33_code 0 = .ok (.aload_n 0, 1) := by decide +kernel
theorem d_M_parent_1 : decode prog_7_method_33_code 1 = .ok (.iload_n 1, 1) := by decide +kernel
theorem d_M_parent_2 : decode prog_7_method_33_code 2 = .ok (.invokevirtual 63, 3) := by decide +kernel
theorem d_M_parent_5 : decode prog_7_method_33_code 5 = .ok (.ifCond .ne 5, 3) := by decide +kernel
theorem d_M_parent_8 : decode prog_7_method_33_code 8 = .ok (.iconst (-1), 1) := by decide +kernel
theorem d_M_parent_9 : decode prog_7_method_33_code 9 = .ok (.ireturn, 1) := by decide +kernel
theorem d_M_parent_10 : decode prog_7_method_33_code 10 = .ok (.aload_n 0, 1) := by decide +kernel
theorem d_M_parent_11 : decode prog_7_method_33_code 11 = .ok (.getfield 97, 3) := by decide +kernel
theorem d_M_parent_14 : decode prog_7_method_33_code 14 = .ok (.ifCond .ne 6, 3) := by decide +kernel
theorem d_M_parent_17 : decode prog_7_method_33_code 17 = .ok (.bipush (-3), 2) := by decide +kernel
theorem d_M_parent_19 : decode prog_7_method_33_code 19 = .ok (.ireturn, 1) := by decide +kernel
theorem d_M_parent_20 : decode prog_7_method_33_code 20 = .ok (.iload_n 2, 1) := by decide +kernel
theorem d_M_parent_21 : decode prog_7_method_33_code 21 = .ok (.istore_n 3, 1) := by decide +kernel
theorem d_M_parent_22 : decode prog_7_method_33_code 22 = .ok (.iconst 0, 1) := by decide +kernel
theorem d_M_parent_23 : decode prog_7_method_33_code 23 = .ok (.istore 4, 2) := by decide +kernel
theorem d_M_parent_25 : decode prog_7_method_33_code 25 = .ok (.iload 4, 2) := by decide +kernel
theorem d_M_parent_27 : decode prog_7_method_33_code 27 = .ok (.aload_n 0, 1) := by decide +kernel
theorem d_M_parent_28 : decode prog_7_method_33_code 28 = .ok (.getfield 60, 3) := by decide +kernel
theorem d_M_parent_31 : decode prog_7_method_33_code 31 = .ok (.if_icmp .ge 95, 3) := by decide +kernel
theorem d_M_parent_34 : decode prog_7_method_33_code 34 = .ok (.iload_n 2, 1) := by decide +kernel
theorem d_M_parent_35 : decode prog_7_method_33_code 35 = .ok (.ifCond .lt 91, 3) := by decide +kernel
theorem d_M_parent_38 : decode prog_7_method_33_code 38 = .ok (.aload_n 0, 1) := by decide +kernel
theorem d_M_parent_39 : decode prog_7_method_33_code 39 = .ok (.getfield 36, 3) := by decide +kernel
theorem d_M_parent_42 : decode prog_7_method_33_code 42 = .ok (.iload 4, 2) := by decide +kernel
theorem d_M_parent_44 : decode prog_7_method_33_code 44 = .ok (.baload, 1) := by decide +kernel
theorem d_M_parent_45 : decode prog_7_method_33_code 45 = .ok (.ifCond .eq 47, 3) := by decide +kernel
theorem d_M_parent_48 : decode prog_7_method_33_code 48 = .ok (.aload_n 0, 1) := by decide +kernel
theorem d_M_parent_49 : decode prog_7_method_33_code 49 = .ok (.iload 4, 2) := by decide +kernel
theorem d_M_parent_51 : decode prog_7_method_33_code 51 = .ok (.invokevirtual 148, 3) := by decide +kernel
theorem d_M_parent_54 : decode prog_7_method_33_code 54 = .ok (.ifCond .ne 38, 3) := by decide +kernel
theorem d_M_parent_57 : decode prog_7_method_33_code 57 = .ok (.aload_n 0, 1) := by decide +kernel
theorem d_M_parent_58 : decode prog_7_method_33_code 58 = .ok (.getfield 36, 3) := by decide +kernel
theorem d_M_parent_61 : decode prog_7_method_33_code 61 = .ok (.iload_n 1, 1) := by decide +kernel
theorem d_M_parent_62 : decode prog_7_method_33_code 62 = .ok (.baload, 1) := by decide +kernel
theorem d_M_parent_63 : decode prog_7_method_33_code 63 = .ok (.ifCond .eq 16, 3) := by decide +kernel
theorem d_M_parent_66 : decode prog_7_method_33_code 66 = .ok (.aload_n 0, 1) := by decide +kernel
theorem d_M_parent_67 : decode prog_7_method_33_code 67 = .ok (.iload_n 1, 1) := by decide +kernel
theorem d_M_parent_68 : decode prog_7_method_33_code 68 = .ok (.iload 4, 2) := by decide +kernel
theorem d_M_parent_70 : decode prog_7_method_33_code 70 = .ok (.invokevirtual 131, 3) := by decide +kernel
theorem d_M_parent_73 : decode prog_7_method_33_code 73 = .ok (.ifCond .eq 19, 3) := by decide +kernel
theorem d_M_parent_76 : decode prog_7_method_33_code 76 = .ok (.goto 12, 3) := by decide +kernel
theorem d_M_parent_79 : decode prog_7_method_33_code 79 = .ok (.aload_n 0, 1) := by decide +kernel
theorem d_M_parent_80 : decode prog_7_method_33_code 80 = .ok (.iload 4, 2) := by decide +kernel
theorem d_M_parent_82 : decode prog_7_method_33_code 82 = .ok (.invokevirtual 151, 3) := by decide +kernel
theorem d_M_parent_85 : decode prog_7_method_33_code 85 = .ok (.ifCond .ne 7, 3) := by decide +kernel
theorem d_M_parent_88 : decode prog_7_method_33_code 88 = .ok (.iconst 1, 1) := by decide +kernel
theorem d_M_parent_89 : decode prog_7_method_33_code 89 = .ok (.goto 4, 3) := by decide +kernel
theorem d_M_parent_92 : decode prog_7_method_33_code 92 = .ok (.iconst 0, 1) := by decide +kernel
theorem d_M_parent_93 : decode prog_7_method_33_code 93 = .ok (.istore 5, 2) := by decide +kernel
theorem d_M_parent_95 : decode prog_7_method_33_code 95 = .ok (.iload 5, 2) := by decide +kernel
theorem d_M_parent_97 : decode prog_7_method_33_code 97 = .ok (.ifCond .eq 10, 3) := by decide +kernel
theorem d_M_parent_100 : decode prog_7_method_33_code 100 = .ok (.iload_n 3, 1) := by decide +kernel
theorem d_M_parent_101 : decode prog_7_method_33_code 101 = .ok (.ifCond .ne 6, 3) := by decide +kernel
theorem d_M_parent_104 : decode prog_7_method_33_code 104 = .ok (.iload 4, 2) := by decide +kernel
theorem d_M_parent_106 : decode prog_7_method_33_code 106 = .ok (.ireturn, 1) := by decide +kernel
theorem d_M_parent_107 : decode prog_7_method_33_code 107 = .ok (.iload_n 3, 1) := by decide +kernel
theorem d_M_parent_108 : decode prog_7_method_33_code 108 = .ok (.iload 5, 2) := by decide +kernel
theorem d_M_parent_110 : decode prog_7_method_33_code 110 = .ok (.ifCond .eq 7, 3) := by decide +kernel
theorem d_M_parent_113 : decode prog_7_method_33_code 113 = .ok (.iconst 1, 1) := by decide +kernel
theorem d_M_parent_114 : decode prog_7_method_33_code 114 = .ok (.goto 4, 3) := by decide +kernel
theorem d_M_parent_117 : decode prog_7_method_33_code 117 = .ok (.iconst 0, 1) := by decide +kernel
theorem d_M_parent_118 : decode prog_7_method_33_code 118 = .ok (.isub, 1) := by decide +kernel
theorem d_M_parent_119 : decode prog_7_method_33_code 119 = .ok (.istore_n 3, 1) := by decide +kernel
theorem d_M_parent_120 : decode prog_7_method_33_code 120 = .ok (.iinc 4 1, 3) := by decide +kernel
theorem d_M_parent_123 : decode prog_7_method_33_code 123 = .ok (.goto (-98), 3) := by decide +kernel
theorem d_M_parent_126 : decode prog_7_method_33_code 126 = .ok (.bipush (-6), 2) := by decide +kernel
theorem d_M_parent_128 : decode prog_7_method_33_code 128 = .ok (.ireturn, 1) := by decide +kernel
theorem d_M_isSecond_0 : decode prog_7_method_31_code 0 = .ok (.iconst 0, 1) := by decide +kernel
theorem d_M_isSecond_1 : decode prog_7_method_31_code 1 = .ok (.istore_n 2, 1) := by decide +kernel
theorem d_M_isSecond_2 : decode prog_7_method_31_code 2 = .ok (.iconst 0, 1) := by decide +kernel
theorem d_M_isSecond_3 : decode prog_7_method_31_code 3 = .ok (.istore_n 3, 1) := by decide +kernel
theorem d_M_isSecond_4 : decode prog_7_method_31_code 4 = .ok (.iload_n 3, 1) := by decide +kernel
theorem d_M_isSecond_5 : decode prog_7_method_31_code 5 = .ok (.iload_n 1, 1) := by decide +kernel
theorem d_M_isSecond_6 : decode prog_7_method_31_code 6 = .ok (.if_icmp .ge 46, 3) := by decide +kernel
theorem d_M_isSecond_9 : decode prog_7_method_31_code 9 = .ok (.iload_n 2, 1) := by decide +kernel
theorem d_M_isSecond_10 : decode prog_7_method_31_code 10 = .ok (.ifCond .ne 30, 3) := by decide +kernel
theorem d_M_isSecond_13 : decode prog_7_method_31_code 13 = .ok (.aload_n 0, 1) := by decide +kernel
theorem d_M_isSecond_14 : decode prog_7_method_31_code 14 = .ok (.getfield 36, 3) := by decide +kernel
theorem d_M_isSecond_17 : decode prog_7_method_31_code 17 = .ok (.iload_n 3, 1) := by decide +kernel
theorem d_M_isSecond_18 : decode prog_7_method_31_code 18 = .ok (.baload, 1) := by decide +kernel
theorem d_M_isSecond_19 : decode prog_7_method_31_code 19 = .ok (.ifCond .eq 25, 3) := by decide +kernel
theorem d_M_isSecond_22 : decode prog_7_method_31_code 22 = .ok (.aload_n 0, 1) := by decide +kernel
theorem d_M_isSecond_23 : decode prog_7_method_31_code 23 = .ok (.iload_n 3, 1) := by decide +kernel
theorem d_M_isSecond_24 : decode prog_7_method_31_code 24 = .ok (.iload_n 1, 1) := by decide +kernel
theorem d_M_isSecond_25 : decode prog_7_method_31_code 25 = .ok (.invokevirtual 77, 3) := by decide +kernel
theorem d_M_isSecond_28 : decode prog_7_method_31_code 28 = .ok (.ifCond .eq 16, 3) := by decide +kernel
theorem d_M_isSecond_31 : decode prog_7_method_31_code 31 = .ok (.aload_n 0, 1) := by decide +kernel
theorem d_M_isSecond_32 : decode prog_7_method_31_code 32 = .ok (.iload_n 1, 1) := by decide +kernel
theorem d_M_isSecond_33 : decode prog_7_method_31_code 33 = .ok (.iload_n 3, 1) := by decide +kernel
theorem d_M_isSecond_34 : decode prog_7_method_31_code 34 = .ok (.invokevirtual 77, 3) := by decide +kernel
theorem d_M_isSecond_37 : decode prog_7_method_31_code 37 = .ok (.ifCond .eq 7, 3) := by decide +kernel
theorem d_M_isSecond_40 : decode prog_7_method_31_code 40 = .ok (.iconst 1, 1) := by decide +kernel
theorem d_M_isSecond_41 : decode prog_7_method_31_code 41 = .ok (.goto 4, 3) := by decide +kernel
theorem d_M_isSecond_44 : decode prog_7_method_31_code 44 = .ok (.iconst 0, 1) := by decide +kernel
theorem d_M_isSecond_45 : decode prog_7_method_31_code 45 = .ok (.istore_n 2, 1) := by decide +kernel
theorem d_M_isSecond_46 : decode prog_7_method_31_code 46 = .ok (.iinc 3 1, 3) := by decide +kernel
theorem d_M_isSecond_49 : decode prog_7_method_31_code 49 = .ok (.goto (-45), 3) := by decide +kernel
theorem d_M_isSecond_52 : decode prog_7_method_31_code 52 = .ok (.iload_n 2, 1) := by decide +kernel
theorem d_M_isSecond_53 : decode prog_7_method_31_code 53 = .ok (.ireturn, 1) := by decide +kernel
theorem d_M_hasBelow_0 : decode prog_7_method_32_code 0 = .ok (.iconst 0, 1) := by decide +kernel
theorem d_M_hasBelow_1 : decode prog_7_method_32_code 1 = .ok (.istore_n 2, 1) := by decide +kernel
theorem d_M_hasBelow_2 : decode prog_7_method_32_code 2 = .ok (.iconst 0, 1) := by decide +kernel
theorem d_M_hasBelow_3 : decode prog_7_method_32_code 3 = .ok (.istore_n 3, 1) := by decide +kernel
theorem d_M_hasBelow_4 : decode prog_7_method_32_code 4 = .ok (.iload_n 3, 1) := by decide +kernel
theorem d_M_hasBelow_5 : decode prog_7_method_32_code 5 = .ok (.aload_n 0, 1) := by decide +kernel
theorem d_M_hasBelow_6 : decode prog_7_method_32_code 6 = .ok (.getfield 60, 3) := by decide +kernel
theorem d_M_hasBelow_9 : decode prog_7_method_32_code 9 = .ok (.if_icmp .ge 37, 3) := by decide +kernel
theorem d_M_hasBelow_12 : decode prog_7_method_32_code 12 = .ok (.iload_n 2, 1) := by decide +kernel
theorem d_M_hasBelow_13 : decode prog_7_method_32_code 13 = .ok (.ifCond .ne 21, 3) := by decide +kernel
theorem d_M_hasBelow_16 : decode prog_7_method_32_code 16 = .ok (.aload_n 0, 1) := by decide +kernel
theorem d_M_hasBelow_17 : decode prog_7_method_32_code 17 = .ok (.getfield 36, 3) := by decide +kernel
theorem d_M_hasBelow_20 : decode prog_7_method_32_code 20 = .ok (.iload_n 3, 1) := by decide +kernel
theorem d_M_hasBelow_21 : decode prog_7_method_32_code 21 = .ok (.baload, 1) := by decide +kernel
theorem d_M_hasBelow_22 : decode prog_7_method_32_code 22 = .ok (.ifCond .eq 16, 3) := by decide +kernel
theorem d_M_hasBelow_25 : decode prog_7_method_32_code 25 = .ok (.aload_n 0, 1) := by decide +kernel
theorem d_M_hasBelow_26 : decode prog_7_method_32_code 26 = .ok (.iload_n 3, 1) := by decide +kernel
theorem d_M_hasBelow_27 : decode prog_7_method_32_code 27 = .ok (.iload_n 1, 1) := by decide +kernel
theorem d_M_hasBelow_28 : decode prog_7_method_32_code 28 = .ok (.invokevirtual 131, 3) := by decide +kernel
theorem d_M_hasBelow_31 : decode prog_7_method_32_code 31 = .ok (.ifCond .eq 7, 3) := by decide +kernel
theorem d_M_hasBelow_34 : decode prog_7_method_32_code 34 = .ok (.iconst 1, 1) := by decide +kernel
theorem d_M_hasBelow_35 : decode prog_7_method_32_code 35 = .ok (.goto 4, 3) := by decide +kernel
theorem d_M_hasBelow_38 : decode prog_7_method_32_code 38 = .ok (.iconst 0, 1) := by decide +kernel
theorem d_M_hasBelow_39 : decode prog_7_method_32_code 39 = .ok (.istore_n 2, 1) := by decide +kernel
theorem d_M_hasBelow_40 : decode prog_7_method_32_code 40 = .ok (.iinc 3 1, 3) := by decide +kernel
theorem d_M_hasBelow_43 : decode prog_7_method_32_code 43 = .ok (.goto (-39), 3) := by decide +kernel
theorem d_M_hasBelow_46 : decode prog_7_method_32_code 46 = .ok (.iload_n 2, 1) := by decide +kernel
theorem d_M_hasBelow_47 : decode prog_7_method_32_code 47 = .ok (.ireturn, 1) := by decide +kernel
theorem d_M_child_0 : decode prog_7_method_34_code 0 = .ok (.aload_n 0, 1) := by decide +kernel
theorem d_M_child_1 : decode prog_7_method_34_code 1 = .ok (.iload_n 1, 1) := by decide +kernel
theorem d_M_child_2 : decode prog_7_method_34_code 2 = .ok (.invokevirtual 63, 3) := by decide +kernel
theorem d_M_child_5 : decode prog_7_method_34_code 5 = .ok (.ifCond .ne 5, 3) := by decide +kernel
theorem d_M_child_8 : decode prog_7_method_34_code 8 = .ok (.iconst (-1), 1) := by decide +kernel
theorem d_M_child_9 : decode prog_7_method_34_code 9 = .ok (.ireturn, 1) := by decide +kernel
theorem d_M_child_10 : decode prog_7_method_34_code 10 = .ok (.aload_n 0, 1) := by decide +kernel
theorem d_M_child_11 : decode prog_7_method_34_code 11 = .ok (.getfield 97, 3) := by decide +kernel
theorem d_M_child_14 : decode prog_7_method_34_code 14 = .ok (.ifCond .ne 6, 3) := by decide +kernel
theorem d_M_child_17 : decode prog_7_method_34_code 17 = .ok (.bipush (-3), 2) := by decide +kernel
theorem d_M_child_19 : decode prog_7_method_34_code 19 = .ok (.ireturn, 1) := by decide +kernel
theorem d_M_child_20 : decode prog_7_method_34_code 20 = .ok (.iload_n 2, 1) := by decide +kernel
theorem d_M_child_21 : decode prog_7_method_34_code 21 = .ok (.istore_n 3, 1) := by decide +kernel
theorem d_M_child_22 : decode prog_7_method_34_code 22 = .ok (.iconst 0, 1) := by decide +kernel
theorem d_M_child_23 : decode prog_7_method_34_code 23 = .ok (.istore 4, 2) := by decide +kernel
theorem d_M_child_25 : decode prog_7_method_34_code 25 = .ok (.iload 4, 2) := by decide +kernel
theorem d_M_child_27 : decode prog_7_method_34_code 27 = .ok (.aload_n 0, 1) := by decide +kernel
theorem d_M_child_28 : decode prog_7_method_34_code 28 = .ok (.getfield 60, 3) := by decide +kernel
theorem d_M_child_31 : decode prog_7_method_34_code 31 = .ok (.if_icmp .ge 83, 3) := by decide +kernel
theorem d_M_child_34 : decode prog_7_method_34_code 34 = .ok (.iload_n 2, 1) := by decide +kernel
theorem d_M_child_35 : decode prog_7_method_34_code 35 = .ok (.ifCond .lt 79, 3) := by decide +kernel
theorem d_M_child_38 : decode prog_7_method_34_code 38 = .ok (.aload_n 0, 1) := by decide +kernel
theorem d_M_child_39 : decode prog_7_method_34_code 39 = .ok (.getfield 36, 3) := by decide +kernel
theorem d_M_child_42 : decode prog_7_method_34_code 42 = .ok (.iload_n 1, 1) := by decide +kernel
theorem d_M_child_43 : decode prog_7_method_34_code 43 = .ok (.baload, 1) := by decide +kernel
theorem d_M_child_44 : decode prog_7_method_34_code 44 = .ok (.ifCond .eq 70, 3) := by decide +kernel
theorem d_M_child_47 : decode prog_7_method_34_code 47 = .ok (.aload_n 0, 1) := by decide +kernel
theorem d_M_child_48 : decode prog_7_method_34_code 48 = .ok (.getfield 36, 3) := by decide +kernel
theorem d_M_child_51 : decode prog_7_method_34_code 51 = .ok (.iload 4, 2) := by decide +kernel
theorem d_M_child_53 : decode prog_7_method_34_code 53 = .ok (.baload, 1) := by decide +kernel
theorem d_M_child_54 : decode prog_7_method_34_code 54 = .ok (.ifCond .eq 26, 3) := by decide +kernel
theorem d_M_child_57 : decode prog_7_method_34_code 57 = .ok (.aload_n 0, 1) := by decide +kernel
theorem d_M_child_58 : decode prog_7_method_34_code 58 = .ok (.iload 4, 2) := by decide +kernel
theorem d_M_child_60 : decode prog_7_method_34_code 60 = .ok (.invokevirtual 148, 3) := by decide +kernel
theorem d_M_child_63 : decode prog_7_method_34_code 63 = .ok (.ifCond .ne 17, 3) := by decide +kernel
theorem d_M_child_66 : decode prog_7_method_34_code 66 = .ok (.aload_n 0, 1) := by decide +kernel
theorem d_M_child_67 : decode prog_7_method_34_code 67 = .ok (.iload 4, 2) := by decide +kernel
theorem d_M_child_69 : decode prog_7_method_34_code 69 = .ok (.iload_n 1, 1) := by decide +kernel
theorem d_M_child_70 : decode prog_7_method_34_code 70 = .ok (.invokevirtual 131, 3) := by decide +kernel
theorem d_M_child_73 : decode prog_7_method_34_code 73 = .ok (.ifCond .eq 7, 3) := by decide +kernel
theorem d_M_child_76 : decode prog_7_method_34_code 76 = .ok (.iconst 1, 1) := by decide +kernel
theorem d_M_child_77 : decode prog_7_method_34_code 77 = .ok (.goto 4, 3) := by decide +kernel
theorem d_M_child_80 : decode prog_7_method_34_code 80 = .ok (.iconst 0, 1) := by decide +kernel
theorem d_M_child_81 : decode prog_7_method_34_code 81 = .ok (.istore 5, 2) := by decide +kernel
theorem d_M_child_83 : decode prog_7_method_34_code 83 = .ok (.iload 5, 2) := by decide +kernel
theorem d_M_child_85 : decode prog_7_method_34_code 85 = .ok (.ifCond .eq 10, 3) := by decide +kernel
theorem d_M_child_88 : decode prog_7_method_34_code 88 = .ok (.iload_n 3, 1) := by decide +kernel
theorem d_M_child_89 : decode prog_7_method_34_code 89 = .ok (.ifCond .ne 6, 3) := by decide +kernel
theorem d_M_child_92 : decode prog_7_method_34_code 92 = .ok (.iload 4, 2) := by decide +kernel
theorem d_M_child_94 : decode prog_7_method_34_code 94 = .ok (.ireturn, 1) := by decide +kernel
theorem d_M_child_95 : decode prog_7_method_34_code 95 = .ok (.iload_n 3, 1) := by decide +kernel
theorem d_M_child_96 : decode prog_7_method_34_code 96 = .ok (.iload 5, 2) := by decide +kernel
theorem d_M_child_98 : decode prog_7_method_34_code 98 = .ok (.ifCond .eq 7, 3) := by decide +kernel
theorem d_M_child_101 : decode prog_7_method_34_code 101 = .ok (.iconst 1, 1) := by decide +kernel
theorem d_M_child_102 : decode prog_7_method_34_code 102 = .ok (.goto 4, 3) := by decide +kernel
theorem d_M_child_105 : decode prog_7_method_34_code 105 = .ok (.iconst 0, 1) := by decide +kernel
theorem d_M_child_106 : decode prog_7_method_34_code 106 = .ok (.isub, 1) := by decide +kernel
theorem d_M_child_107 : decode prog_7_method_34_code 107 = .ok (.istore_n 3, 1) := by decide +kernel
theorem d_M_child_108 : decode prog_7_method_34_code 108 = .ok (.iinc 4 1, 3) := by decide +kernel
theorem d_M_child_111 : decode prog_7_method_34_code 111 = .ok (.goto (-86), 3) := by decide +kernel
theorem d_M_child_114 : decode prog_7_method_34_code 114 = .ok (.bipush (-6), 2) := by decide +kernel
theorem d_M_child_116 : decode prog_7_method_34_code 116 = .ok (.ireturn, 1) := by decide +kernel
theorem d_M_equal_0 : decode prog_7_method_35_code 0 = .ok (.aload_n 0, 1) := by decide +kernel
theorem d_M_equal_1 : decode prog_7_method_35_code 1 = .ok (.iload_n 1, 1) := by decide +kernel
theorem d_M_equal_2 : decode prog_7_method_35_code 2 = .ok (.invokevirtual 63, 3) := by decide +kernel
theorem d_M_equal_5 : decode prog_7_method_35_code 5 = .ok (.ifCond .ne 5, 3) := by decide +kernel
theorem d_M_equal_8 : decode prog_7_method_35_code 8 = .ok (.iconst (-1), 1) := by decide +kernel
theorem d_M_equal_9 : decode prog_7_method_35_code 9 = .ok (.ireturn, 1) := by decide +kernel
theorem d_M_equal_10 : decode prog_7_method_35_code 10 = .ok (.aload_n 0, 1) := by decide +kernel
theorem d_M_equal_11 : decode prog_7_method_35_code 11 = .ok (.getfield 97, 3) := by decide +kernel
theorem d_M_equal_14 : decode prog_7_method_35_code 14 = .ok (.ifCond .ne 6, 3) := by decide +kernel
theorem d_M_equal_17 : decode prog_7_method_35_code 17 = .ok (.bipush (-3), 2) := by decide +kernel
theorem d_M_equal_19 : decode prog_7_method_35_code 19 = .ok (.ireturn, 1) := by decide +kernel
theorem d_M_equal_20 : decode prog_7_method_35_code 20 = .ok (.iload_n 2, 1) := by decide +kernel
theorem d_M_equal_21 : decode prog_7_method_35_code 21 = .ok (.istore_n 3, 1) := by decide +kernel
theorem d_M_equal_22 : decode prog_7_method_35_code 22 = .ok (.iconst 0, 1) := by decide +kernel
theorem d_M_equal_23 : decode prog_7_method_35_code 23 = .ok (.istore 4, 2) := by decide +kernel
theorem d_M_equal_25 : decode prog_7_method_35_code 25 = .ok (.iload 4, 2) := by decide +kernel
theorem d_M_equal_27 : decode prog_7_method_35_code 27 = .ok (.aload_n 0, 1) := by decide +kernel
theorem d_M_equal_28 : decode prog_7_method_35_code 28 = .ok (.getfield 60, 3) := by decide +kernel
theorem d_M_equal_31 : decode prog_7_method_35_code 31 = .ok (.if_icmp .ge 65, 3) := by decide +kernel
theorem d_M_equal_34 : decode prog_7_method_35_code 34 = .ok (.iload_n 2, 1) := by decide +kernel
theorem d_M_equal_35 : decode prog_7_method_35_code 35 = .ok (.ifCond .lt 61, 3) := by decide +kernel
theorem d_M_equal_38 : decode prog_7_method_35_code 38 = .ok (.aload_n 0, 1) := by decide +kernel
theorem d_M_equal_39 : decode prog_7_method_35_code 39 = .ok (.iload_n 1, 1) := by decide +kernel
theorem d_M_equal_40 : decode prog_7_method_35_code 40 = .ok (.iload 4, 2) := by decide +kernel
theorem d_M_equal_42 : decode prog_7_method_35_code 42 = .ok (.invokevirtual 77, 3) := by decide +kernel
theorem d_M_equal_45 : decode prog_7_method_35_code 45 = .ok (.ifCond .eq 17, 3) := by decide +kernel
theorem d_M_equal_48 : decode prog_7_method_35_code 48 = .ok (.aload_n 0, 1) := by decide +kernel
theorem d_M_equal_49 : decode prog_7_method_35_code 49 = .ok (.iload 4, 2) := by decide +kernel
theorem d_M_equal_51 : decode prog_7_method_35_code 51 = .ok (.iload_n 1, 1) := by decide +kernel
theorem d_M_equal_52 : decode prog_7_method_35_code 52 = .ok (.invokevirtual 77, 3) := by decide +kernel
theorem d_M_equal_55 : decode prog_7_method_35_code 55 = .ok (.ifCond .eq 7, 3) := by decide +kernel
theorem d_M_equal_58 : decode prog_7_method_35_code 58 = .ok (.iconst 1, 1) := by decide +kernel
theorem d_M_equal_59 : decode prog_7_method_35_code 59 = .ok (.goto 4, 3) := by decide +kernel
theorem d_M_equal_62 : decode prog_7_method_35_code 62 = .ok (.iconst 0, 1) := by decide +kernel
theorem d_M_equal_63 : decode prog_7_method_35_code 63 = .ok (.istore 5, 2) := by decide +kernel
theorem d_M_equal_65 : decode prog_7_method_35_code 65 = .ok (.iload 5, 2) := by decide +kernel
theorem d_M_equal_67 : decode prog_7_method_35_code 67 = .ok (.ifCond .eq 10, 3) := by decide +kernel
theorem d_M_equal_70 : decode prog_7_method_35_code 70 = .ok (.iload_n 3, 1) := by decide +kernel
theorem d_M_equal_71 : decode prog_7_method_35_code 71 = .ok (.ifCond .ne 6, 3) := by decide +kernel
theorem d_M_equal_74 : decode prog_7_method_35_code 74 = .ok (.iload 4, 2) := by decide +kernel
theorem d_M_equal_76 : decode prog_7_method_35_code 76 = .ok (.ireturn, 1) := by decide +kernel
theorem d_M_equal_77 : decode prog_7_method_35_code 77 = .ok (.iload_n 3, 1) := by decide +kernel
theorem d_M_equal_78 : decode prog_7_method_35_code 78 = .ok (.iload 5, 2) := by decide +kernel
theorem d_M_equal_80 : decode prog_7_method_35_code 80 = .ok (.ifCond .eq 7, 3) := by decide +kernel
theorem d_M_equal_83 : decode prog_7_method_35_code 83 = .ok (.iconst 1, 1) := by decide +kernel
theorem d_M_equal_84 : decode prog_7_method_35_code 84 = .ok (.goto 4, 3) := by decide +kernel
theorem d_M_equal_87 : decode prog_7_method_35_code 87 = .ok (.iconst 0, 1) := by decide +kernel
theorem d_M_equal_88 : decode prog_7_method_35_code 88 = .ok (.isub, 1) := by decide +kernel
theorem d_M_equal_89 : decode prog_7_method_35_code 89 = .ok (.istore_n 3, 1) := by decide +kernel
theorem d_M_equal_90 : decode prog_7_method_35_code 90 = .ok (.iinc 4 1, 3) := by decide +kernel
theorem d_M_equal_93 : decode prog_7_method_35_code 93 = .ok (.goto (-68), 3) := by decide +kernel
theorem d_M_equal_96 : decode prog_7_method_35_code 96 = .ok (.bipush (-6), 2) := by decide +kernel
theorem d_M_equal_98 : decode prog_7_method_35_code 98 = .ok (.ireturn, 1) := by decide +kernel
theorem d_M_empty_0 : decode prog_7_method_36_code 0 = .ok (.aload_n 0, 1) := by decide +kernel
theorem d_M_empty_1 : decode prog_7_method_36_code 1 = .ok (.getfield 97, 3) := by decide +kernel
theorem d_M_empty_4 : decode prog_7_method_36_code 4 = .ok (.ifCond .ne 6, 3) := by decide +kernel
theorem d_M_empty_7 : decode prog_7_method_36_code 7 = .ok (.bipush (-3), 2) := by decide +kernel
theorem d_M_empty_9 : decode prog_7_method_36_code 9 = .ok (.ireturn, 1) := by decide +kernel
theorem d_M_empty_10 : decode prog_7_method_36_code 10 = .ok (.iload_n 1, 1) := by decide +kernel
theorem d_M_empty_11 : decode prog_7_method_36_code 11 = .ok (.istore_n 2, 1) := by decide +kernel
theorem d_M_empty_12 : decode prog_7_method_36_code 12 = .ok (.iconst 0, 1) := by decide +kernel
theorem d_M_empty_13 : decode prog_7_method_36_code 13 = .ok (.istore_n 3, 1) := by decide +kernel
theorem d_M_empty_14 : decode prog_7_method_36_code 14 = .ok (.iload_n 3, 1) := by decide +kernel
theorem d_M_empty_15 : decode prog_7_method_36_code 15 = .ok (.aload_n 0, 1) := by decide +kernel
theorem d_M_empty_16 : decode prog_7_method_36_code 16 = .ok (.getfield 60, 3) := by decide +kernel
theorem d_M_empty_19 : decode prog_7_method_36_code 19 = .ok (.if_icmp .ge 45, 3) := by decide +kernel
theorem d_M_empty_22 : decode prog_7_method_36_code 22 = .ok (.iload_n 1, 1) := by decide +kernel
theorem d_M_empty_23 : decode prog_7_method_36_code 23 = .ok (.ifCond .lt 41, 3) := by decide +kernel
theorem d_M_empty_26 : decode prog_7_method_36_code 26 = .ok (.aload_n 0, 1) := by decide +kernel
theorem d_M_empty_27 : decode prog_7_method_36_code 27 = .ok (.getfield 36, 3) := by decide +kernel
theorem d_M_empty_30 : decode prog_7_method_36_code 30 = .ok (.iload_n 3, 1) := by decide +kernel
theorem d_M_empty_31 : decode prog_7_method_36_code 31 = .ok (.baload, 1) := by decide +kernel
theorem d_M_empty_32 : decode prog_7_method_36_code 32 = .ok (.ifCond .ne 9, 3) := by decide +kernel
theorem d_M_empty_35 : decode prog_7_method_36_code 35 = .ok (.iload_n 2, 1) := by decide +kernel
theorem d_M_empty_36 : decode prog_7_method_36_code 36 = .ok (.ifCond .ne 5, 3) := by decide +kernel
theorem d_M_empty_39 : decode prog_7_method_36_code 39 = .ok (.iload_n 3, 1) := by decide +kernel
theorem d_M_empty_40 : decode prog_7_method_36_code 40 = .ok (.ireturn, 1) := by decide +kernel
theorem d_M_empty_41 : decode prog_7_method_36_code 41 = .ok (.iload_n 2, 1) := by decide +kernel
theorem d_M_empty_42 : decode prog_7_method_36_code 42 = .ok (.aload_n 0, 1) := by decide +kernel
theorem d_M_empty_43 : decode prog_7_method_36_code 43 = .ok (.getfield 36, 3) := by decide +kernel
theorem d_M_empty_46 : decode prog_7_method_36_code 46 = .ok (.iload_n 3, 1) := by decide +kernel
theorem d_M_empty_47 : decode prog_7_method_36_code 47 = .ok (.baload, 1) := by decide +kernel
theorem d_M_empty_48 : decode prog_7_method_36_code 48 = .ok (.ifCond .eq 7, 3) := by decide +kernel
theorem d_M_empty_51 : decode prog_7_method_36_code 51 = .ok (.iconst 0, 1) := by decide +kernel
theorem d_M_empty_52 : decode prog_7_method_36_code 52 = .ok (.goto 4, 3) := by decide +kernel
theorem d_M_empty_55 : decode prog_7_method_36_code 55 = .ok (.iconst 1, 1) := by decide +kernel
theorem d_M_empty_56 : decode prog_7_method_36_code 56 = .ok (.isub, 1) := by decide +kernel
theorem d_M_empty_57 : decode prog_7_method_36_code 57 = .ok (.istore_n 2, 1) := by decide +kernel
theorem d_M_empty_58 : decode prog_7_method_36_code 58 = .ok (.iinc 3 1, 3) := by decide +kernel
theorem d_M_empty_61 : decode prog_7_method_36_code 61 = .ok (.goto (-47), 3) := by decide +kernel
theorem d_M_empty_64 : decode prog_7_method_36_code 64 = .ok (.bipush (-6), 2) := by decide +kernel
theorem d_M_empty_66 : decode prog_7_method_36_code 66 = .ok (.ireturn, 1) := by decide +kernel
theorem d_M_open_0 : decode prog_7_method_37_code 0 = .ok (.iload_n 1, 1) := by decide +kernel
theorem d_M_open_1 : decode prog_7_method_37_code 1 = .ok (.istore_n 2, 1) := by decide +kernel
theorem d_M_open_2 : decode prog_7_method_37_code 2 = .ok (.iconst 0, 1) := by decide +kernel
theorem d_M_open_3 : decode prog_7_method_37_code 3 = .ok (.istore_n 3, 1) := by decide +kernel
theorem d_M_open_4 : decode prog_7_method_37_code 4 = .ok (.iload_n 3, 1) := by decide +kernel
theorem d_M_open_5 : decode prog_7_method_37_code 5 = .ok (.sipush 420, 3) := by decide +kernel
theorem d_M_open_8 : decode prog_7_method_37_code 8 = .ok (.if_icmp .ge 79, 3) := by decide +kernel
theorem d_M_open_11 : decode prog_7_method_37_code 11 = .ok (.iload_n 1, 1) := by decide +kernel
theorem d_M_open_12 : decode prog_7_method_37_code 12 = .ok (.ifCond .lt 75, 3) := by decide +kernel
theorem d_M_open_15 : decode prog_7_method_37_code 15 = .ok (.aload_n 0, 1) := by decide +kernel
theorem d_M_open_16 : decode prog_7_method_37_code 16 = .ok (.getfield 30, 3) := by decide +kernel
theorem d_M_open_19 : decode prog_7_method_37_code 19 = .ok (.iload_n 3, 1) := by decide +kernel
theorem d_M_open_20 : decode prog_7_method_37_code 20 = .ok (.iaload, 1) := by decide +kernel
theorem d_M_open_21 : decode prog_7_method_37_code 21 = .ok (.iconst 2, 1) := by decide +kernel
theorem d_M_open_22 : decode prog_7_method_37_code 22 = .ok (.if_icmp .ne 7, 3) := by decide +kernel
theorem d_M_open_25 : decode prog_7_method_37_code 25 = .ok (.iconst 1, 1) := by decide +kernel
theorem d_M_open_26 : decode prog_7_method_37_code 26 = .ok (.goto 4, 3) := by decide +kernel
theorem d_M_open_29 : decode prog_7_method_37_code 29 = .ok (.iconst 0, 1) := by decide +kernel
theorem d_M_open_30 : decode prog_7_method_37_code 30 = .ok (.istore 4, 2) := by decide +kernel
theorem d_M_open_32 : decode prog_7_method_37_code 32 = .ok (.iload 4, 2) := by decide +kernel
theorem d_M_open_34 : decode prog_7_method_37_code 34 = .ok (.ifCond .eq 34, 3) := by decide +kernel
theorem d_M_open_37 : decode prog_7_method_37_code 37 = .ok (.iload_n 2, 1) := by decide +kernel
theorem d_M_open_38 : decode prog_7_method_37_code 38 = .ok (.ifCond .ne 30, 3) := by decide +kernel
theorem d_M_open_41 : decode prog_7_method_37_code 41 = .ok (.bipush 32, 2) := by decide +kernel
theorem d_M_open_43 : decode prog_7_method_37_code 43 = .ok (.iload_n 3, 1) := by decide +kernel
theorem d_M_open_44 : decode prog_7_method_37_code 44 = .ok (.bipush 21, 2) := by decide +kernel
theorem d_M_open_46 : decode prog_7_method_37_code 46 = .ok (.idiv, 1) := by decide +kernel
theorem d_M_open_47 : decode prog_7_method_37_code 47 = .ok (.imul, 1) := by decide +kernel
theorem d_M_open_48 : decode prog_7_method_37_code 48 = .ok (.iload_n 3, 1) := by decide +kernel
theorem d_M_open_49 : decode prog_7_method_37_code 49 = .ok (.bipush 21, 2) := by decide +kernel
theorem d_M_open_51 : decode prog_7_method_37_code 51 = .ok (.irem, 1) := by decide +kernel
theorem d_M_open_52 : decode prog_7_method_37_code 52 = .ok (.bipush 20, 2) := by decide +kernel
theorem d_M_open_54 : decode prog_7_method_37_code 54 = .ok (.if_icmp .ne 8, 3) := by decide +kernel
theorem d_M_open_57 : decode prog_7_method_37_code 57 = .ok (.bipush 31, 2) := by decide +kernel
theorem d_M_open_59 : decode prog_7_method_37_code 59 = .ok (.goto 7, 3) := by decide +kernel
theorem d_M_open_62 : decode prog_7_method_37_code 62 = .ok (.iload_n 3, 1) := by decide +kernel
theorem d_M_open_63 : decode prog_7_method_37_code 63 = .ok (.bipush 21, 2) := by decide +kernel
theorem d_M_open_65 : decode prog_7_method_37_code 65 = .ok (.irem, 1) := by decide +kernel
theorem d_M_open_66 : decode prog_7_method_37_code 66 = .ok (.iadd, 1) := by decide +kernel
theorem d_M_open_67 : decode prog_7_method_37_code 67 = .ok (.ireturn, 1) := by decide +kernel
theorem d_M_open_68 : decode prog_7_method_37_code 68 = .ok (.iload_n 2, 1) := by decide +kernel
theorem d_M_open_69 : decode prog_7_method_37_code 69 = .ok (.iload 4, 2) := by decide +kernel
theorem d_M_open_71 : decode prog_7_method_37_code 71 = .ok (.ifCond .eq 7, 3) := by decide +kernel
theorem d_M_open_74 : decode prog_7_method_37_code 74 = .ok (.iconst 1, 1) := by decide +kernel
theorem d_M_open_75 : decode prog_7_method_37_code 75 = .ok (.goto 4, 3) := by decide +kernel
theorem d_M_open_78 : decode prog_7_method_37_code 78 = .ok (.iconst 0, 1) := by decide +kernel
theorem d_M_open_79 : decode prog_7_method_37_code 79 = .ok (.isub, 1) := by decide +kernel
theorem d_M_open_80 : decode prog_7_method_37_code 80 = .ok (.istore_n 2, 1) := by decide +kernel
theorem d_M_open_81 : decode prog_7_method_37_code 81 = .ok (.iinc 3 1, 3) := by decide +kernel
theorem d_M_open_84 : decode prog_7_method_37_code 84 = .ok (.goto (-80), 3) := by decide +kernel
theorem d_M_open_87 : decode prog_7_method_37_code 87 = .ok (.bipush (-6), 2) := by decide +kernel
theorem d_M_open_89 : decode prog_7_method_37_code 89 = .ok (.ireturn, 1) := by decide +kernel
theorem d_M_put_0 : decode prog_7_method_38_code 0 = .ok (.iload_n 1, 1) := by decide +kernel
theorem d_M_put_1 : decode prog_7_method_38_code 1 = .ok (.ifCond .lt 19, 3) := by decide +kernel
theorem d_M_put_4 : decode prog_7_method_38_code 4 = .ok (.iload_n 1, 1) := by decide +kernel
theorem d_M_put_5 : decode prog_7_method_38_code 5 = .ok (.aload_n 0, 1) := by decide +kernel
theorem d_M_put_6 : decode prog_7_method_38_code 6 = .ok (.getfield 104, 3) := by decide +kernel
theorem d_M_put_9 : decode prog_7_method_38_code 9 = .ok (.if_icmp .ge 11, 3) := by decide +kernel
theorem d_M_put_12 : decode prog_7_method_38_code 12 = .ok (.aload_n 0, 1) := by decide +kernel
theorem d_M_put_13 : decode prog_7_method_38_code 13 = .ok (.iload_n 2, 1) := by decide +kernel
theorem d_M_put_14 : decode prog_7_method_38_code 14 = .ok (.invokevirtual 63, 3) := by decide +kernel
theorem d_M_put_17 : decode prog_7_method_38_code 17 = .ok (.ifCond .ne 5, 3) := by decide +kernel
theorem d_M_put_20 : decode prog_7_method_38_code 20 = .ok (.iconst (-1), 1) := by decide +kernel
theorem d_M_put_21 : decode prog_7_method_38_code 21 = .ok (.ireturn, 1) := by decide +kernel
theorem d_M_put_22 : decode prog_7_method_38_code 22 = .ok (.aload_n 0, 1) := by decide +kernel
theorem d_M_put_23 : decode prog_7_method_38_code 23 = .ok (.getfield 27, 3) := by decide +kernel
theorem d_M_put_26 : decode prog_7_method_38_code 26 = .ok (.bipush 20, 2) := by decide +kernel
theorem d_M_put_28 : decode prog_7_method_38_code 28 = .ok (.iload_n 1, 1) := by decide +kernel
theorem d_M_put_29 : decode prog_7_method_38_code 29 = .ok (.imul, 1) := by decide +kernel
theorem d_M_put_30 : decode prog_7_method_38_code 30 = .ok (.iload_n 2, 1) := by decide +kernel
theorem d_M_put_31 : decode prog_7_method_38_code 31 = .ok (.iadd, 1) := by decide +kernel
theorem d_M_put_32 : decode prog_7_method_38_code 32 = .ok (.baload, 1) := by decide +kernel
theorem d_M_put_33 : decode prog_7_method_38_code 33 = .ok (.istore_n 3, 1) := by decide +kernel
theorem d_M_put_34 : decode prog_7_method_38_code 34 = .ok (.aload_n 0, 1) := by decide +kernel
theorem d_M_put_35 : decode prog_7_method_38_code 35 = .ok (.getfield 27, 3) := by decide +kernel
theorem d_M_put_38 : decode prog_7_method_38_code 38 = .ok (.bipush 20, 2) := by decide +kernel
theorem d_M_put_40 : decode prog_7_method_38_code 40 = .ok (.iload_n 1, 1) := by decide +kernel
theorem d_M_put_41 : decode prog_7_method_38_code 41 = .ok (.imul, 1) := by decide +kernel
theorem d_M_put_42 : decode prog_7_method_38_code 42 = .ok (.iload_n 2, 1) := by decide +kernel
theorem d_M_put_43 : decode prog_7_method_38_code 43 = .ok (.iadd, 1) := by decide +kernel
theorem d_M_put_44 : decode prog_7_method_38_code 44 = .ok (.iconst 1, 1) := by decide +kernel
theorem d_M_put_45 : decode prog_7_method_38_code 45 = .ok (.bastore, 1) := by decide +kernel
theorem d_M_put_46 : decode prog_7_method_38_code 46 = .ok (.iload_n 3, 1) := by decide +kernel
theorem d_M_put_47 : decode prog_7_method_38_code 47 = .ok (.ifCond .eq 7, 3) := by decide +kernel
theorem d_M_put_50 : decode prog_7_method_38_code 50 = .ok (.iconst 0, 1) := by decide +kernel
theorem d_M_put_51 : decode prog_7_method_38_code 51 = .ok (.goto 4, 3) := by decide +kernel
theorem d_M_put_54 : decode prog_7_method_38_code 54 = .ok (.iconst 1, 1) := by decide +kernel
theorem d_M_put_55 : decode prog_7_method_38_code 55 = .ok (.ireturn, 1) := by decide +kernel
theorem d_M_type_0 : decode prog_7_method_40_code 0 = .ok (.iload_n 1, 1) := by decide +kernel
theorem d_M_type_1 : decode prog_7_method_40_code 1 = .ok (.ifCond .lt 11, 3) := by decide +kernel
theorem d_M_type_4 : decode prog_7_method_40_code 4 = .ok (.iload_n 1, 1) := by decide +kernel
theorem d_M_type_5 : decode prog_7_method_40_code 5 = .ok (.aload_n 0, 1) := by decide +kernel
theorem d_M_type_6 : decode prog_7_method_40_code 6 = .ok (.getfield 104, 3) := by decide +kernel
theorem d_M_type_9 : decode prog_7_method_40_code 9 = .ok (.if_icmp .lt 5, 3) := by decide +kernel
theorem d_M_type_12 : decode prog_7_method_40_code 12 = .ok (.iconst (-1), 1) := by decide +kernel
theorem d_M_type_13 : decode prog_7_method_40_code 13 = .ok (.ireturn, 1) := by decide +kernel
theorem d_M_type_14 : decode prog_7_method_40_code 14 = .ok (.aload_n 0, 1) := by decide +kernel
theorem d_M_type_15 : decode prog_7_method_40_code 15 = .ok (.getfield 97, 3) := by decide +kernel
theorem d_M_type_18 : decode prog_7_method_40_code 18 = .ok (.ifCond .ne 6, 3) := by decide +kernel
theorem d_M_type_21 : decode prog_7_method_40_code 21 = .ok (.bipush (-3), 2) := by decide +kernel
theorem d_M_type_23 : decode prog_7_method_40_code 23 = .ok (.ireturn, 1) := by decide +kernel
theorem d_M_type_24 : decode prog_7_method_40_code 24 = .ok (.aload_n 0, 1) := by decide +kernel
theorem d_M_type_25 : decode prog_7_method_40_code 25 = .ok (.iload_n 1, 1) := by decide +kernel
theorem d_M_type_26 : decode prog_7_method_40_code 26 = .ok (.bipush 20, 2) := by decide +kernel
theorem d_M_type_28 : decode prog_7_method_40_code 28 = .ok (.invokevirtual 154, 3) := by decide +kernel
theorem d_M_type_31 : decode prog_7_method_40_code 31 = .ok (.iconst 1, 1) := by decide +kernel
theorem d_M_type_32 : decode prog_7_method_40_code 32 = .ok (.if_icmp .ne 6, 3) := by decide +kernel
theorem d_M_type_35 : decode prog_7_method_40_code 35 = .ok (.bipush (-5), 2) := by decide +kernel
theorem d_M_type_37 : decode prog_7_method_40_code 37 = .ok (.ireturn, 1) := by decide +kernel
theorem d_M_type_38 : decode prog_7_method_40_code 38 = .ok (.iload_n 2, 1) := by decide +kernel
theorem d_M_type_39 : decode prog_7_method_40_code 39 = .ok (.istore_n 3, 1) := by decide +kernel
theorem d_M_type_40 : decode prog_7_method_40_code 40 = .ok (.iconst 0, 1) := by decide +kernel
theorem d_M_type_41 : decode prog_7_method_40_code 41 = .ok (.istore 4, 2) := by decide +kernel
theorem d_M_type_43 : decode prog_7_method_40_code 43 = .ok (.iload 4, 2) := by decide +kernel
theorem d_M_type_45 : decode prog_7_method_40_code 45 = .ok (.aload_n 0, 1) := by decide +kernel
theorem d_M_type_46 : decode prog_7_method_40_code 46 = .ok (.getfield 60, 3) := by decide +kernel
theorem d_M_type_49 : decode prog_7_method_40_code 49 = .ok (.if_icmp .ge 135, 3) := by decide +kernel
theorem d_M_type_52 : decode prog_7_method_40_code 52 = .ok (.iload_n 2, 1) := by decide +kernel
theorem d_M_type_53 : decode prog_7_method_40_code 53 = .ok (.ifCond .lt 131, 3) := by decide +kernel
theorem d_M_type_56 : decode prog_7_method_40_code 56 = .ok (.aload_n 0, 1) := by decide +kernel
theorem d_M_type_57 : decode prog_7_method_40_code 57 = .ok (.getfield 36, 3) := by decide +kernel
theorem d_M_type_60 : decode prog_7_method_40_code 60 = .ok (.iload 4, 2) := by decide +kernel
theorem d_M_type_62 : decode prog_7_method_40_code 62 = .ok (.baload, 1) := by decide +kernel
theorem d_M_type_63 : decode prog_7_method_40_code 63 = .ok (.ifCond .eq 26, 3) := by decide +kernel
theorem d_M_type_66 : decode prog_7_method_40_code 66 = .ok (.aload_n 0, 1) := by decide +kernel
theorem d_M_type_67 : decode prog_7_method_40_code 67 = .ok (.iload 4, 2) := by decide +kernel
theorem d_M_type_69 : decode prog_7_method_40_code 69 = .ok (.invokevirtual 148, 3) := by decide +kernel
theorem d_M_type_72 : decode prog_7_method_40_code 72 = .ok (.ifCond .ne 17, 3) := by decide +kernel
theorem d_M_type_75 : decode prog_7_method_40_code 75 = .ok (.aload_n 0, 1) := by decide +kernel
theorem d_M_type_76 : decode prog_7_method_40_code 76 = .ok (.iload_n 1, 1) := by decide +kernel
theorem d_M_type_77 : decode prog_7_method_40_code 77 = .ok (.iload 4, 2) := by decide +kernel
theorem d_M_type_79 : decode prog_7_method_40_code 79 = .ok (.invokevirtual 157, 3) := by decide +kernel
theorem d_M_type_82 : decode prog_7_method_40_code 82 = .ok (.ifCond .eq 7, 3) := by decide +kernel
theorem d_M_type_85 : decode prog_7_method_40_code 85 = .ok (.iconst 1, 1) := by decide +kernel
theorem d_M_type_86 : decode prog_7_method_40_code 86 = .ok (.goto 4, 3) := by decide +kernel
theorem d_M_type_89 : decode prog_7_method_40_code 89 = .ok (.iconst 0, 1) := by decide +kernel
theorem d_M_type_90 : decode prog_7_method_40_code 90 = .ok (.istore 5, 2) := by decide +kernel
theorem d_M_type_92 : decode prog_7_method_40_code 92 = .ok (.iconst 0, 1) := by decide +kernel
theorem d_M_type_93 : decode prog_7_method_40_code 93 = .ok (.istore 6, 2) := by decide +kernel
theorem d_M_type_95 : decode prog_7_method_40_code 95 = .ok (.iload 6, 2) := by decide +kernel
theorem d_M_type_97 : decode prog_7_method_40_code 97 = .ok (.aload_n 0, 1) := by decide +kernel
theorem d_M_type_98 : decode prog_7_method_40_code 98 = .ok (.getfield 60, 3) := by decide +kernel
theorem d_M_type_101 : decode prog_7_method_40_code 101 = .ok (.if_icmp .ge 52, 3) := by decide +kernel
theorem d_M_type_104 : decode prog_7_method_40_code 104 = .ok (.iload 5, 2) := by decide +kernel
theorem d_M_type_106 : decode prog_7_method_40_code 106 = .ok (.ifCond .eq 47, 3) := by decide +kernel
theorem d_M_type_109 : decode prog_7_method_40_code 109 = .ok (.aload_n 0, 1) := by decide +kernel
theorem d_M_type_110 : decode prog_7_method_40_code 110 = .ok (.getfield 36, 3) := by decide +kernel
theorem d_M_type_113 : decode prog_7_method_40_code 113 = .ok (.iload 6, 2) := by decide +kernel
theorem d_M_type_115 : decode prog_7_method_40_code 115 = .ok (.baload, 1) := by decide +kernel
theorem d_M_type_116 : decode prog_7_method_40_code 116 = .ok (.ifCond .eq 24, 3) := by decide +kernel
theorem d_M_type_119 : decode prog_7_method_40_code 119 = .ok (.aload_n 0, 1) := by decide +kernel
theorem d_M_type_120 : decode prog_7_method_40_code 120 = .ok (.iload 6, 2) := by decide +kernel
theorem d_M_type_122 : decode prog_7_method_40_code 122 = .ok (.iload 4, 2) := by decide +kernel
theorem d_M_type_124 : decode prog_7_method_40_code 124 = .ok (.invokevirtual 131, 3) := by decide +kernel
theorem d_M_type_127 : decode prog_7_method_40_code 127 = .ok (.ifCond .eq 13, 3) := by decide +kernel
theorem d_M_type_130 : decode prog_7_method_40_code 130 = .ok (.aload_n 0, 1) := by decide +kernel
theorem d_M_type_131 : decode prog_7_method_40_code 131 = .ok (.iload_n 1, 1) := by decide +kernel
theorem d_M_type_132 : decode prog_7_method_40_code 132 = .ok (.iload 6, 2) := by decide +kernel
theorem d_M_type_134 : decode prog_7_method_40_code 134 = .ok (.invokevirtual 157, 3) := by decide +kernel
theorem d_M_type_137 : decode prog_7_method_40_code 137 = .ok (.ifCond .ne 7, 3) := by decide +kernel
theorem d_M_type_140 : decode prog_7_method_40_code 140 = .ok (.iconst 1, 1) := by decide +kernel
theorem d_M_type_141 : decode prog_7_method_40_code 141 = .ok (.goto 4, 3) := by decide +kernel
theorem d_M_type_144 : decode prog_7_method_40_code 144 = .ok (.iconst 0, 1) := by decide +kernel
theorem d_M_type_145 : decode prog_7_method_40_code 145 = .ok (.istore 5, 2) := by decide +kernel
theorem d_M_type_147 : decode prog_7_method_40_code 147 = .ok (.iinc 6 1, 3) := by decide +kernel
theorem d_M_type_150 : decode prog_7_method_40_code 150 = .ok (.goto (-55), 3) := by decide +kernel
theorem d_M_type_153 : decode prog_7_method_40_code 153 = .ok (.iload 5, 2) := by decide +kernel
theorem d_M_type_155 : decode prog_7_method_40_code 155 = .ok (.ifCond .eq 10, 3) := by decide +kernel
theorem d_M_type_158 : decode prog_7_method_40_code 158 = .ok (.iload_n 3, 1) := by decide +kernel
theorem d_M_type_159 : decode prog_7_method_40_code 159 = .ok (.ifCond .ne 6, 3) := by decide +kernel
theorem d_M_type_162 : decode prog_7_method_40_code 162 = .ok (.iload 4, 2) := by decide +kernel
theorem d_M_type_164 : decode prog_7_method_40_code 164 = .ok (.ireturn, 1) := by decide +kernel
theorem d_M_type_165 : decode prog_7_method_40_code 165 = .ok (.iload_n 3, 1) := by decide +kernel
theorem d_M_type_166 : decode prog_7_method_40_code 166 = .ok (.iload 5, 2) := by decide +kernel
theorem d_M_type_168 : decode prog_7_method_40_code 168 = .ok (.ifCond .eq 7, 3) := by decide +kernel
theorem d_M_type_171 : decode prog_7_method_40_code 171 = .ok (.iconst 1, 1) := by decide +kernel
theorem d_M_type_172 : decode prog_7_method_40_code 172 = .ok (.goto 4, 3) := by decide +kernel
theorem d_M_type_175 : decode prog_7_method_40_code 175 = .ok (.iconst 0, 1) := by decide +kernel
theorem d_M_type_176 : decode prog_7_method_40_code 176 = .ok (.isub, 1) := by decide +kernel
theorem d_M_type_177 : decode prog_7_method_40_code 177 = .ok (.istore_n 3, 1) := by decide +kernel
theorem d_M_type_178 : decode prog_7_method_40_code 178 = .ok (.iinc 4 1, 3) := by decide +kernel
theorem d_M_type_181 : decode prog_7_method_40_code 181 = .ok (.goto (-138), 3) := by decide +kernel
theorem d_M_type_184 : decode prog_7_method_40_code 184 = .ok (.bipush (-6), 2) := by decide +kernel
theorem d_M_type_186 : decode prog_7_method_40_code 186 = .ok (.ireturn, 1) := by decide +kernel
theorem d_M_reasonThing_0 : decode prog_7_method_14_code 0 = .ok (.iconst 0, 1) := by decide +kernel
theorem d_M_reasonThing_1 : decode prog_7_method_14_code 1 = .ok (.istore_n 3, 1) := by decide +kernel
theorem d_M_reasonThing_2 : decode prog_7_method_14_code 2 = .ok (.iload_n 3, 1) := by decide +kernel
theorem d_M_reasonThing_3 : decode prog_7_method_14_code 3 = .ok (.bipush 20, 2) := by decide +kernel
theorem d_M_reasonThing_5 : decode prog_7_method_14_code 5 = .ok (.if_icmp .gt 40, 3) := by decide +kernel
theorem d_M_reasonThing_8 : decode prog_7_method_14_code 8 = .ok (.aload_n 0, 1) := by decide +kernel
theorem d_M_reasonThing_9 : decode prog_7_method_14_code 9 = .ok (.getfield 42, 3) := by decide +kernel
theorem d_M_reasonThing_12 : decode prog_7_method_14_code 12 = .ok (.iload_n 3, 1) := by decide +kernel
theorem d_M_reasonThing_13 : decode prog_7_method_14_code 13 = .ok (.iload_n 3, 1) := by decide +kernel
theorem d_M_reasonThing_14 : decode prog_7_method_14_code 14 = .ok (.bipush 20, 2) := by decide +kernel
theorem d_M_reasonThing_16 : decode prog_7_method_14_code 16 = .ok (.if_icmp .ge 21, 3) := by decide +kernel
theorem d_M_reasonThing_19 : decode prog_7_method_14_code 19 = .ok (.aload_n 0, 1) := by decide +kernel
theorem d_M_reasonThing_20 : decode prog_7_method_14_code 20 = .ok (.getfield 27, 3) := by decide +kernel
theorem d_M_reasonThing_23 : decode prog_7_method_14_code 23 = .ok (.bipush 20, 2) := by decide +kernel
theorem d_M_reasonThing_25 : decode prog_7_method_14_code 25 = .ok (.iload_n 1, 1) := by decide +kernel
theorem d_M_reasonThing_26 : decode prog_7_method_14_code 26 = .ok (.imul, 1) := by decide +kernel
theorem d_M_reasonThing_27 : decode prog_7_method_14_code 27 = .ok (.iload_n 3, 1) := by decide +kernel
theorem d_M_reasonThing_28 : decode prog_7_method_14_code 28 = .ok (.iadd, 1) := by decide +kernel
theorem d_M_reasonThing_29 : decode prog_7_method_14_code 29 = .ok (.baload, 1) := by decide +kernel
theorem d_M_reasonThing_30 : decode prog_7_method_14_code 30 = .ok (.ifCond .eq 7, 3) := by decide +kernel
theorem d_M_reasonThing_33 : decode prog_7_method_14_code 33 = .ok (.iconst 1, 1) := by decide +kernel
theorem d_M_reasonThing_34 : decode prog_7_method_14_code 34 = .ok (.goto 4, 3) := by decide +kernel
theorem d_M_reasonThing_37 : decode prog_7_method_14_code 37 = .ok (.iconst 0, 1) := by decide +kernel
theorem d_M_reasonThing_38 : decode prog_7_method_14_code 38 = .ok (.bastore, 1) := by decide +kernel
theorem d_M_reasonThing_39 : decode prog_7_method_14_code 39 = .ok (.iinc 3 1, 3) := by decide +kernel
theorem d_M_reasonThing_42 : decode prog_7_method_14_code 42 = .ok (.goto (-40), 3) := by decide +kernel
theorem d_M_reasonThing_45 : decode prog_7_method_14_code 45 = .ok (.aload_n 0, 1) := by decide +kernel
theorem d_M_reasonThing_46 : decode prog_7_method_14_code 46 = .ok (.iload_n 2, 1) := by decide +kernel
theorem d_M_reasonThing_47 : decode prog_7_method_14_code 47 = .ok (.invokevirtual 93, 3) := by decide +kernel
theorem d_M_reasonThing_50 : decode prog_7_method_14_code 50 = .ok (.ireturn, 1) := by decide +kernel
theorem d_M_isIn_0 : decode prog_7_method_39_code 0 = .ok (.aload_n 0, 1) := by decide +kernel
theorem d_M_isIn_1 : decode prog_7_method_39_code 1 = .ok (.iload_n 1, 1) := by decide +kernel
theorem d_M_isIn_2 : decode prog_7_method_39_code 2 = .ok (.iload_n 2, 1) := by decide +kernel
theorem d_M_isIn_3 : decode prog_7_method_39_code 3 = .ok (.invokevirtual 154, 3) := by decide +kernel
theorem d_M_isIn_6 : decode prog_7_method_39_code 6 = .ok (.iconst 1, 1) := by decide +kernel
theorem d_M_isIn_7 : decode prog_7_method_39_code 7 = .ok (.if_icmp .ne 7, 3) := by decide +kernel
theorem d_M_isIn_10 : decode prog_7_method_39_code 10 = .ok (.iconst 1, 1) := by decide +kernel
theorem d_M_isIn_11 : decode prog_7_method_39_code 11 = .ok (.goto 4, 3) := by decide +kernel
theorem d_M_isIn_14 : decode prog_7_method_39_code 14 = .ok (.iconst 0, 1) := by decide +kernel
theorem d_M_isIn_15 : decode prog_7_method_39_code 15 = .ok (.ireturn, 1) := by decide +kernel
theorem d_M_trace_0 : decode prog_7_method_41_code 0 = .ok (.aload_n 0, 1) := by decide +kernel
theorem d_M_trace_1 : decode prog_7_method_41_code 1 = .ok (.iload_n 2, 1) := by decide +kernel
theorem d_M_trace_2 : decode prog_7_method_41_code 2 = .ok (.invokevirtual 118, 3) := by decide +kernel
theorem d_M_trace_5 : decode prog_7_method_41_code 5 = .ok (.istore 4, 2) := by decide +kernel
theorem d_M_trace_7 : decode prog_7_method_41_code 7 = .ok (.aload_n 0, 1) := by decide +kernel
theorem d_M_trace_8 : decode prog_7_method_41_code 8 = .ok (.iload_n 1, 1) := by decide +kernel
theorem d_M_trace_9 : decode prog_7_method_41_code 9 = .ok (.invokevirtual 63, 3) := by decide +kernel
theorem d_M_trace_12 : decode prog_7_method_41_code 12 = .ok (.ifCond .eq 8, 3) := by decide +kernel
theorem d_M_trace_15 : decode prog_7_method_41_code 15 = .ok (.iload 4, 2) := by decide +kernel
theorem d_M_trace_17 : decode prog_7_method_41_code 17 = .ok (.ifCond .ge 5, 3) := by decide +kernel
theorem d_M_trace_20 : decode prog_7_method_41_code 20 = .ok (.iconst (-1), 1) := by decide +kernel
theorem d_M_trace_21 : decode prog_7_method_41_code 21 = .ok (.ireturn, 1) := by decide +kernel
theorem d_M_trace_22 : decode prog_7_method_41_code 22 = .ok (.aload_n 0, 1) := by decide +kernel
theorem d_M_trace_23 : decode prog_7_method_41_code 23 = .ok (.iload_n 1, 1) := by decide +kernel
theorem d_M_trace_24 : decode prog_7_method_41_code 24 = .ok (.iload 4, 2) := by decide +kernel
theorem d_M_trace_26 : decode prog_7_method_41_code 26 = .ok (.invokevirtual 121, 3) := by decide +kernel
theorem d_M_trace_29 : decode prog_7_method_41_code 29 = .ok (.iconst 1, 1) := by decide +kernel
theorem d_M_trace_30 : decode prog_7_method_41_code 30 = .ok (.if_icmp .ne 10, 3) := by decide +kernel
theorem d_M_trace_33 : decode prog_7_method_41_code 33 = .ok (.aload_n 0, 1) := by decide +kernel
theorem d_M_trace_34 : decode prog_7_method_41_code 34 = .ok (.getfield 90, 3) := by decide +kernel
theorem d_M_trace_37 : decode prog_7_method_41_code 37 = .ok (.ifCond .ne 6, 3) := by decide +kernel
theorem d_M_trace_40 : decode prog_7_method_41_code 40 = .ok (.bipush (-6), 2) := by decide +kernel
theorem d_M_trace_42 : decode prog_7_method_41_code 42 = .ok (.ireturn, 1) := by decide +kernel
theorem d_M_trace_43 : decode prog_7_method_41_code 43 = .ok (.iconst 0, 1) := by decide +kernel
theorem d_M_trace_44 : decode prog_7_method_41_code 44 = .ok (.istore 5, 2) := by decide +kernel
theorem d_M_trace_46 : decode prog_7_method_41_code 46 = .ok (.iload 5, 2) := by decide +kernel
theorem d_M_trace_48 : decode prog_7_method_41_code 48 = .ok (.bipush 40, 2) := by decide +kernel
theorem d_M_trace_50 : decode prog_7_method_41_code 50 = .ok (.if_icmp .ge 17, 3) := by decide +kernel
theorem d_M_trace_53 : decode prog_7_method_41_code 53 = .ok (.aload_n 0, 1) := by decide +kernel
theorem d_M_trace_54 : decode prog_7_method_41_code 54 = .ok (.getfield 51, 3) := by decide +kernel
theorem d_M_trace_57 : decode prog_7_method_41_code 57 = .ok (.iload 5, 2) := by decide +kernel
theorem d_M_trace_59 : decode prog_7_method_41_code 59 = .ok (.iconst 0, 1) := by decide +kernel
theorem d_M_trace_60 : decode prog_7_method_41_code 60 = .ok (.bastore, 1) := by decide +kernel
theorem d_M_trace_61 : decode prog_7_method_41_code 61 = .ok (.iinc 5 1, 3) := by decide +kernel
theorem d_M_trace_64 : decode prog_7_method_41_code 64 = .ok (.goto (-18), 3) := by decide +kernel
theorem d_M_trace_67 : decode prog_7_method_41_code 67 = .ok (.aload_n 0, 1) := by decide +kernel
theorem d_M_trace_68 : decode prog_7_method_41_code 68 = .ok (.getfield 51, 3) := by decide +kernel
theorem d_M_trace_71 : decode prog_7_method_41_code 71 = .ok (.aload_n 0, 1) := by decide +kernel
theorem d_M_trace_72 : decode prog_7_method_41_code 72 = .ok (.getfield 48, 3) := by decide +kernel
theorem d_M_trace_75 : decode prog_7_method_41_code 75 = .ok (.aload_n 0, 1) := by decide +kernel
theorem d_M_trace_76 : decode prog_7_method_41_code 76 = .ok (.getfield 90, 3) := by decide +kernel
theorem d_M_trace_79 : decode prog_7_method_41_code 79 = .ok (.iconst 1, 1) := by decide +kernel
theorem d_M_trace_80 : decode prog_7_method_41_code 80 = .ok (.isub, 1) := by decide +kernel
theorem d_M_trace_81 : decode prog_7_method_41_code 81 = .ok (.iaload, 1) := by decide +kernel
theorem d_M_trace_82 : decode prog_7_method_41_code 82 = .ok (.iconst 1, 1) := by decide +kernel
theorem d_M_trace_83 : decode prog_7_method_41_code 83 = .ok (.bastore, 1) := by decide +kernel
theorem d_M_trace_84 : decode prog_7_method_41_code 84 = .ok (.aload_n 0, 1) := by decide +kernel
theorem d_M_trace_85 : decode prog_7_method_41_code 85 = .ok (.getfield 90, 3) := by decide +kernel
theorem d_M_trace_88 : decode prog_7_method_41_code 88 = .ok (.iconst 1, 1) := by decide +kernel
theorem d_M_trace_89 : decode prog_7_method_41_code 89 = .ok (.isub, 1) := by decide +kernel
theorem d_M_trace_90 : decode prog_7_method_41_code 90 = .ok (.istore 5, 2) := by decide +kernel
theorem d_M_trace_92 : decode prog_7_method_41_code 92 = .ok (.iload 5, 2) := by decide +kernel
theorem d_M_trace_94 : decode prog_7_method_41_code 94 = .ok (.ifCond .lt 104, 3) := by decide +kernel
theorem d_M_trace_97 : decode prog_7_method_41_code 97 = .ok (.aload_n 0, 1) := by decide +kernel
theorem d_M_trace_98 : decode prog_7_method_41_code 98 = .ok (.getfield 48, 3) := by decide +kernel
theorem d_M_trace_101 : decode prog_7_method_41_code 101 = .ok (.iload 5, 2) := by decide +kernel
theorem d_M_trace_103 : decode prog_7_method_41_code 103 = .ok (.iaload, 1) := by decide +kernel
theorem d_M_trace_104 : decode prog_7_method_41_code 104 = .ok (.istore 6, 2) := by decide +kernel
theorem d_M_trace_106 : decode prog_7_method_41_code 106 = .ok (.aload_n 0, 1) := by decide +kernel
theorem d_M_trace_107 : decode prog_7_method_41_code 107 = .ok (.getfield 51, 3) := by decide +kernel
theorem d_M_trace_110 : decode prog_7_method_41_code 110 = .ok (.iload 6, 2) := by decide +kernel
theorem d_M_trace_112 : decode prog_7_method_41_code 112 = .ok (.baload, 1) := by decide +kernel
theorem d_M_trace_113 : decode prog_7_method_41_code 113 = .ok (.ifCond .eq 79, 3) := by decide +kernel
theorem d_M_trace_116 : decode prog_7_method_41_code 116 = .ok (.aload_n 0, 1) := by decide +kernel
theorem d_M_trace_117 : decode prog_7_method_41_code 117 = .ok (.getfield 45, 3) := by decide +kernel
theorem d_M_trace_120 : decode prog_7_method_41_code 120 = .ok (.aload_n 0, 1) := by decide +kernel
theorem d_M_trace_121 : decode prog_7_method_41_code 121 = .ok (.getfield 13, 3) := by decide +kernel
theorem d_M_trace_124 : decode prog_7_method_41_code 124 = .ok (.iload 6, 2) := by decide +kernel
theorem d_M_trace_126 : decode prog_7_method_41_code 126 = .ok (.iaload, 1) := by decide +kernel
theorem d_M_trace_127 : decode prog_7_method_41_code 127 = .ok (.iaload, 1) := by decide +kernel
theorem d_M_trace_128 : decode prog_7_method_41_code 128 = .ok (.ifCond .lt 21, 3) := by decide +kernel
theorem d_M_trace_131 : decode prog_7_method_41_code 131 = .ok (.aload_n 0, 1) := by decide +kernel
theorem d_M_trace_132 : decode prog_7_method_41_code 132 = .ok (.getfield 51, 3) := by decide +kernel
theorem d_M_trace_135 : decode prog_7_method_41_code 135 = .ok (.aload_n 0, 1) := by decide +kernel
theorem d_M_trace_136 : decode prog_7_method_41_code 136 = .ok (.getfield 45, 3) := by decide +kernel
theorem d_M_trace_139 : decode prog_7_method_41_code 139 = .ok (.aload_n 0, 1) := by decide +kernel
theorem d_M_trace_140 : decode prog_7_method_41_code 140 = .ok (.getfield 13, 3) := by decide +kernel
theorem d_M_trace_143 : decode prog_7_method_41_code 143 = .ok (.iload 6, 2) := by decide +kernel
theorem d_M_trace_145 : decode prog_7_method_41_code 145 = .ok (.iaload, 1) := by decide +kernel
theorem d_M_trace_146 : decode prog_7_method_41_code 146 = .ok (.iaload, 1) := by decide +kernel
theorem d_M_trace_147 : decode prog_7_method_41_code 147 = .ok (.iconst 1, 1) := by decide +kernel
theorem d_M_trace_148 : decode prog_7_method_41_code 148 = .ok (.bastore, 1) := by decide +kernel
theorem d_M_trace_149 : decode prog_7_method_41_code 149 = .ok (.aload_n 0, 1) := by decide +kernel
theorem d_M_trace_150 : decode prog_7_method_41_code 150 = .ok (.getfield 17, 3) := by decide +kernel
theorem d_M_trace_153 : decode prog_7_method_41_code 153 = .ok (.iload 6, 2) := by decide +kernel
theorem d_M_trace_155 : decode prog_7_method_41_code 155 = .ok (.iaload, 1) := by decide +kernel
theorem d_M_trace_156 : decode prog_7_method_41_code 156 = .ok (.ifCond .lt 36, 3) := by decide +kernel
theorem d_M_trace_159 : decode prog_7_method_41_code 159 = .ok (.aload_n 0, 1) := by decide +kernel
theorem d_M_trace_160 : decode prog_7_method_41_code 160 = .ok (.getfield 45, 3) := by decide +kernel
theorem d_M_trace_163 : decode prog_7_method_41_code 163 = .ok (.aload_n 0, 1) := by decide +kernel
theorem d_M_trace_164 : decode prog_7_method_41_code 164 = .ok (.getfield 17, 3) := by decide +kernel
theorem d_M_trace_167 : decode prog_7_method_41_code 167 = .ok (.iload 6, 2) := by decide +kernel
theorem d_M_trace_169 : decode prog_7_method_41_code 169 = .ok (.iaload, 1) := by decide +kernel
theorem d_M_trace_170 : decode prog_7_method_41_code 170 = .ok (.iaload, 1) := by decide +kernel
theorem d_M_trace_171 : decode prog_7_method_41_code 171 = .ok (.ifCond .lt 21, 3) := by decide +kernel
theorem d_M_trace_174 : decode prog_7_method_41_code 174 = .ok (.aload_n 0, 1) := by decide +kernel
theorem d_M_trace_175 : decode prog_7_method_41_code 175 = .ok (.getfield 51, 3) := by decide +kernel
theorem d_M_trace_178 : decode prog_7_method_41_code 178 = .ok (.aload_n 0, 1) := by decide +kernel
theorem d_M_trace_179 : decode prog_7_method_41_code 179 = .ok (.getfield 45, 3) := by decide +kernel
theorem d_M_trace_182 : decode prog_7_method_41_code 182 = .ok (.aload_n 0, 1) := by decide +kernel
theorem d_M_trace_183 : decode prog_7_method_41_code 183 = .ok (.getfield 17, 3) := by decide +kernel
theorem d_M_trace_186 : decode prog_7_method_41_code 186 = .ok (.iload 6, 2) := by decide +kernel
theorem d_M_trace_188 : decode prog_7_method_41_code 188 = .ok (.iaload, 1) := by decide +kernel
theorem d_M_trace_189 : decode prog_7_method_41_code 189 = .ok (.iaload, 1) := by decide +kernel
theorem d_M_trace_190 : decode prog_7_method_41_code 190 = .ok (.iconst 1, 1) := by decide +kernel
theorem d_M_trace_191 : decode prog_7_method_41_code 191 = .ok (.bastore, 1) := by decide +kernel
theorem d_M_trace_192 : decode prog_7_method_41_code 192 = .ok (.iinc 5 (-1), 3) := by decide +kernel
theorem d_M_trace_195 : decode prog_7_method_41_code 195 = .ok (.goto (-103), 3) := by decide +kernel
theorem d_M_trace_198 : decode prog_7_method_41_code 198 = .ok (.iload_n 3, 1) := by decide +kernel
theorem d_M_trace_199 : decode prog_7_method_41_code 199 = .ok (.istore 5, 2) := by decide +kernel
theorem d_M_trace_201 : decode prog_7_method_41_code 201 = .ok (.iconst 0, 1) := by decide +kernel
theorem d_M_trace_202 : decode prog_7_method_41_code 202 = .ok (.istore 6, 2) := by decide +kernel
theorem d_M_trace_204 : decode prog_7_method_41_code 204 = .ok (.iload 6, 2) := by decide +kernel
theorem d_M_trace_206 : decode prog_7_method_41_code 206 = .ok (.aload_n 0, 1) := by decide +kernel
theorem d_M_trace_207 : decode prog_7_method_41_code 207 = .ok (.getfield 90, 3) := by decide +kernel
theorem d_M_trace_210 : decode prog_7_method_41_code 210 = .ok (.if_icmp .ge 60, 3) := by decide +kernel
theorem d_M_trace_213 : decode prog_7_method_41_code 213 = .ok (.iload_n 3, 1) := by decide +kernel
theorem d_M_trace_214 : decode prog_7_method_41_code 214 = .ok (.ifCond .lt 56, 3) := by decide +kernel
theorem d_M_trace_217 : decode prog_7_method_41_code 217 = .ok (.aload_n 0, 1) := by decide +kernel
theorem d_M_trace_218 : decode prog_7_method_41_code 218 = .ok (.getfield 51, 3) := by decide +kernel
theorem d_M_trace_221 : decode prog_7_method_41_code 221 = .ok (.aload_n 0, 1) := by decide +kernel
theorem d_M_trace_222 : decode prog_7_method_41_code 222 = .ok (.getfield 48, 3) := by decide +kernel
theorem d_M_trace_225 : decode prog_7_method_41_code 225 = .ok (.iload 6, 2) := by decide +kernel
theorem d_M_trace_227 : decode prog_7_method_41_code 227 = .ok (.iaload, 1) := by decide +kernel
theorem d_M_trace_228 : decode prog_7_method_41_code 228 = .ok (.baload, 1) := by decide +kernel
theorem d_M_trace_229 : decode prog_7_method_41_code 229 = .ok (.istore 7, 2) := by decide +kernel
theorem d_M_trace_231 : decode prog_7_method_41_code 231 = .ok (.iload 7, 2) := by decide +kernel
theorem d_M_trace_233 : decode prog_7_method_41_code 233 = .ok (.ifCond .eq 16, 3) := by decide +kernel
theorem d_M_trace_236 : decode prog_7_method_41_code 236 = .ok (.iload 5, 2) := by decide +kernel
theorem d_M_trace_238 : decode prog_7_method_41_code 238 = .ok (.ifCond .ne 11, 3) := by decide +kernel
theorem d_M_trace_241 : decode prog_7_method_41_code 241 = .ok (.aload_n 0, 1) := by decide +kernel
theorem d_M_trace_242 : decode prog_7_method_41_code 242 = .ok (.getfield 48, 3) := by decide +kernel
theorem d_M_trace_245 : decode prog_7_method_41_code 245 = .ok (.iload 6, 2) := by decide +kernel
theorem d_M_trace_247 : decode prog_7_method_41_code 247 = .ok (.iaload, 1) := by decide +kernel
theorem d_M_trace_248 : decode prog_7_method_41_code 248 = .ok (.ireturn, 1) := by decide +kernel
theorem d_M_trace_249 : decode prog_7_method_41_code 249 = .ok (.iload 5, 2) := by decide +kernel
theorem d_M_trace_251 : decode prog_7_method_41_code 251 = .ok (.iload 7, 2) := by decide +kernel
theorem d_M_trace_253 : decode prog_7_method_41_code 253 = .ok (.ifCond .eq 7, 3) := by decide +kernel
theorem d_M_trace_256 : decode prog_7_method_41_code 256 = .ok (.iconst 1, 1) := by decide +kernel
theorem d_M_trace_257 : decode prog_7_method_41_code 257 = .ok (.goto 4, 3) := by decide +kernel
theorem d_M_trace_260 : decode prog_7_method_41_code 260 = .ok (.iconst 0, 1) := by decide +kernel
theorem d_M_trace_261 : decode prog_7_method_41_code 261 = .ok (.isub, 1) := by decide +kernel
theorem d_M_trace_262 : decode prog_7_method_41_code 262 = .ok (.istore 5, 2) := by decide +kernel
theorem d_M_trace_264 : decode prog_7_method_41_code 264 = .ok (.iinc 6 1, 3) := by decide +kernel
theorem d_M_trace_267 : decode prog_7_method_41_code 267 = .ok (.goto (-63), 3) := by decide +kernel
theorem d_M_trace_270 : decode prog_7_method_41_code 270 = .ok (.bipush (-6), 2) := by decide +kernel
theorem d_M_trace_272 : decode prog_7_method_41_code 272 = .ok (.ireturn, 1) := by decide +kernel
theorem d_M_count_0 : decode prog_7_method_42_code 0 = .ok (.iconst 0, 1) := by decide +kernel
theorem d_M_count_1 : decode prog_7_method_42_code 1 = .ok (.istore_n 2, 1) := by decide +kernel
theorem d_M_count_2 : decode prog_7_method_42_code 2 = .ok (.iload_n 1, 1) := by decide +kernel
theorem d_M_count_3 : decode prog_7_method_42_code 3 = .ok (.tableswitch 151 0 6 #[41, 46, 81, 86, 91, 96, 109], 41) := by decide +kernel
theorem d_M_count_44 : decode prog_7_method_42_code 44 = .ok (.aload_n 0, 1) := by decide +kernel
theorem d_M_count_45 : decode prog_7_method_42_code 45 = .ok (.getfield 60, 3) := by decide +kernel
theorem d_M_count_48 : decode prog_7_method_42_code 48 = .ok (.ireturn, 1) := by decide +kernel
theorem d_M_count_49 : decode prog_7_method_42_code 49 = .ok (.iconst 0, 1) := by decide +kernel
theorem d_M_count_50 : decode prog_7_method_42_code 50 = .ok (.istore_n 3, 1) := by decide +kernel
theorem d_M_count_51 : decode prog_7_method_42_code 51 = .ok (.iload_n 3, 1) := by decide +kernel
theorem d_M_count_52 : decode prog_7_method_42_code 52 = .ok (.aload_n 0, 1) := by decide +kernel
theorem d_M_count_53 : decode prog_7_method_42_code 53 = .ok (.getfield 67, 3) := by decide +kernel
theorem d_M_count_56 : decode prog_7_method_42_code 56 = .ok (.if_icmp .ge 26, 3) := by decide +kernel
theorem d_M_count_59 : decode prog_7_method_42_code 59 = .ok (.iload_n 2, 1) := by decide +kernel
theorem d_M_count_60 : decode prog_7_method_42_code 60 = .ok (.aload_n 0, 1) := by decide +kernel
theorem d_M_count_61 : decode prog_7_method_42_code 61 = .ok (.getfield 23, 3) := by decide +kernel
theorem d_M_count_64 : decode prog_7_method_42_code 64 = .ok (.iload_n 3, 1) := by decide +kernel
theorem d_M_count_65 : decode prog_7_method_42_code 65 = .ok (.baload, 1) := by decide +kernel
theorem d_M_count_66 : decode prog_7_method_42_code 66 = .ok (.ifCond .eq 7, 3) := by decide +kernel
theorem d_M_count_69 : decode prog_7_method_42_code 69 = .ok (.iconst 1, 1) := by decide +kernel
theorem d_M_count_70 : decode prog_7_method_42_code 70 = .ok (.goto 4, 3) := by decide +kernel
theorem d_M_count_73 : decode prog_7_method_42_code 73 = .ok (.iconst 0, 1) := by decide +kernel
theorem d_M_count_74 : decode prog_7_method_42_code 74 = .ok (.iadd, 1) := by decide +kernel
theorem d_M_count_75 : decode prog_7_method_42_code 75 = .ok (.istore_n 2, 1) := by decide +kernel
theorem d_M_count_76 : decode prog_7_method_42_code 76 = .ok (.iinc 3 1, 3) := by decide +kernel
theorem d_M_count_79 : decode prog_7_method_42_code 79 = .ok (.goto (-28), 3) := by decide +kernel
theorem d_M_count_82 : decode prog_7_method_42_code 82 = .ok (.iload_n 2, 1) := by decide +kernel
theorem d_M_count_83 : decode prog_7_method_42_code 83 = .ok (.ireturn, 1) := by decide +kernel
theorem d_M_count_84 : decode prog_7_method_42_code 84 = .ok (.aload_n 0, 1) := by decide +kernel
theorem d_M_count_85 : decode prog_7_method_42_code 85 = .ok (.getfield 104, 3) := by decide +kernel
theorem d_M_count_88 : decode prog_7_method_42_code 88 = .ok (.ireturn, 1) := by decide +kernel
theorem d_M_count_89 : decode prog_7_method_42_code 89 = .ok (.aload_n 0, 1) := by decide +kernel
theorem d_M_count_90 : decode prog_7_method_42_code 90 = .ok (.getfield 145, 3) := by decide +kernel
theorem d_M_count_93 : decode prog_7_method_42_code 93 = .ok (.ireturn, 1) := by decide +kernel
theorem d_M_count_94 : decode prog_7_method_42_code 94 = .ok (.aload_n 0, 1) := by decide +kernel
theorem d_M_count_95 : decode prog_7_method_42_code 95 = .ok (.invokevirtual 114, 3) := by decide +kernel
theorem d_M_count_98 : decode prog_7_method_42_code 98 = .ok (.ireturn, 1) := by decide +kernel
theorem d_M_count_99 : decode prog_7_method_42_code 99 = .ok (.aload_n 0, 1) := by decide +kernel
theorem d_M_count_100 : decode prog_7_method_42_code 100 = .ok (.getfield 97, 3) := by decide +kernel
theorem d_M_count_103 : decode prog_7_method_42_code 103 = .ok (.ifCond .eq 7, 3) := by decide +kernel
theorem d_M_count_106 : decode prog_7_method_42_code 106 = .ok (.iconst 1, 1) := by decide +kernel
theorem d_M_count_107 : decode prog_7_method_42_code 107 = .ok (.goto 4, 3) := by decide +kernel
theorem d_M_count_110 : decode prog_7_method_42_code 110 = .ok (.iconst 0, 1) := by decide +kernel
theorem d_M_count_111 : decode prog_7_method_42_code 111 = .ok (.ireturn, 1) := by decide +kernel
theorem d_M_count_112 : decode prog_7_method_42_code 112 = .ok (.iconst 0, 1) := by decide +kernel
theorem d_M_count_113 : decode prog_7_method_42_code 113 = .ok (.istore_n 3, 1) := by decide +kernel
theorem d_M_count_114 : decode prog_7_method_42_code 114 = .ok (.iload_n 3, 1) := by decide +kernel
theorem d_M_count_115 : decode prog_7_method_42_code 115 = .ok (.aload_n 0, 1) := by decide +kernel
theorem d_M_count_116 : decode prog_7_method_42_code 116 = .ok (.getfield 60, 3) := by decide +kernel
theorem d_M_count_119 : decode prog_7_method_42_code 119 = .ok (.if_icmp .ge 33, 3) := by decide +kernel
theorem d_M_count_122 : decode prog_7_method_42_code 122 = .ok (.iload_n 2, 1) := by decide +kernel
theorem d_M_count_123 : decode prog_7_method_42_code 123 = .ok (.aload_n 0, 1) := by decide +kernel
theorem d_M_count_124 : decode prog_7_method_42_code 124 = .ok (.getfield 97, 3) := by decide +kernel
theorem d_M_count_127 : decode prog_7_method_42_code 127 = .ok (.ifCond .eq 16, 3) := by decide +kernel
theorem d_M_count_130 : decode prog_7_method_42_code 130 = .ok (.aload_n 0, 1) := by decide +kernel
theorem d_M_count_131 : decode prog_7_method_42_code 131 = .ok (.getfield 36, 3) := by decide +kernel
theorem d_M_count_134 : decode prog_7_method_42_code 134 = .ok (.iload_n 3, 1) := by decide +kernel
theorem d_M_count_135 : decode prog_7_method_42_code 135 = .ok (.baload, 1) := by decide +kernel
theorem d_M_count_136 : decode prog_7_method_42_code 136 = .ok (.ifCond .eq 7, 3) := by decide +kernel
theorem d_M_count_139 : decode prog_7_method_42_code 139 = .ok (.iconst 1, 1) := by decide +kernel
theorem d_M_count_140 : decode prog_7_method_42_code 140 = .ok (.goto 4, 3) := by decide +kernel
theorem d_M_count_143 : decode prog_7_method_42_code 143 = .ok (.iconst 0, 1) := by decide +kernel
theorem d_M_count_144 : decode prog_7_method_42_code 144 = .ok (.iadd, 1) := by decide +kernel
theorem d_M_count_145 : decode prog_7_method_42_code 145 = .ok (.istore_n 2, 1) := by decide +kernel
theorem d_M_count_146 : decode prog_7_method_42_code 146 = .ok (.iinc 3 1, 3) := by decide +kernel
theorem d_M_count_149 : decode prog_7_method_42_code 149 = .ok (.goto (-35), 3) := by decide +kernel
theorem d_M_count_152 : decode prog_7_method_42_code 152 = .ok (.iload_n 2, 1) := by decide +kernel
theorem d_M_count_153 : decode prog_7_method_42_code 153 = .ok (.ireturn, 1) := by decide +kernel
theorem d_M_count_154 : decode prog_7_method_42_code 154 = .ok (.bipush (-2), 2) := by decide +kernel
theorem d_M_count_156 : decode prog_7_method_42_code 156 = .ok (.ireturn, 1) := by decide +kernel
end
section
abbrev rm_X_bit : Room := { frames := 0, cells := 0, slots := 0, locals := 0 }
abbrev K_X_bit (l : Launch) := JW l vwCl NsG TsG "ClassifySort" prog_1_method_24_code 1 (some .int) rm_X_bit
def m_X_bit (p0 : Int32) : Option (Int32) := some (((1 : Int32) <<< (p0 &&& 31)))
set_option maxRecDepth 100000 in
set_option maxHeartbeats 4000000 in
theorem c_X_bit (l : Launch) (ws : jW) (p0 : Int32) (r : Int32) (h : m_X_bit p0 = some r) : JMet l vwCl NsG (.code y_X_bit prog_1_method_24_code 1 (some .int) :: TsG) y_X_bit rm_X_bit [.int p0] ws (fun v w => v = some (.int r) ∧ w = ws) := by
  refine J_enter (by decide +kernel) rfl (Nat.le_of_ble_eq_true rfl) ?_
  unfold m_X_bit at h
  refine J_eq (ls' := [some (.int p0)]) rfl rfl rfl rfl ?_
  refine J_iconst (v := (1 : Int32)) d_X_bit_0 (by decide) ?_
  refine J_iload_n d_X_bit_1 rfl ?_
  refine J_ishl d_X_bit_2 ?_
  exact J_iret d_X_bit_3 rfl rfl (by cases h; exact ⟨rfl, rfl⟩)
abbrev rm_X_has : Room := { frames := 1, cells := 0, slots := 0, locals := 20 }
abbrev K_X_has (l : Launch) := JW l vwCl NsG TsG "ClassifySort" prog_1_method_25_code 2 (some .boolean) rm_X_has
def m_X_has (p0 : Int32) (p1 : Int32) : Option (Int32) := jb (m_X_bit p1) (fun v2 => jb (if (p0 &&& v2) = (0 : Int32) then some (0 : Int32) else some (1 : Int32)) (fun b3 => jg (jz b3) (some (b3))))
set_option maxRecDepth 100000 in
set_option maxHeartbeats 4000000 in
theorem c_X_has (l : Launch) (ws : jW) (p0 : Int32) (p1 : Int32) (r : Int32) (h : m_X_has p0 p1 = some r) : JMet l vwCl NsG (.code y_X_has prog_1_method_25_code 2 (some .boolean) :: TsG) y_X_has rm_X_has [.int p0, .int p1] ws (fun v w => v = some (.int r) ∧ w = ws) := by
  refine J_enter (by decide +kernel) rfl (Nat.le_of_ble_eq_true rfl) ?_
  unfold m_X_has at h
  refine J_eq (ls' := [some (.int p0), some (.int p1)]) rfl rfl rfl rfl ?_
  refine J_iload_n d_X_has_0 rfl ?_
  refine J_iload_n d_X_has_1 rfl ?_
  obtain ⟨v2, e1, h⟩ := jb_some h
  refine J_cSi1 d_X_has_2 (c_X_bit l _ _ _ e1) ts_3 ts_good rfl rfl ts_4 ts_7 dy_X_bit (by decide) (Nat.le_of_ble_eq_true rfl) ts_5 ?_
  refine J_iand d_X_has_5 ?_
  obtain ⟨b3, hb3, h⟩ := jb_some h
  have kb3 : K_X_has l 14 [some (.int p0), some (.int p1)] [.int b3] ws (fun v w => v = some (.int r) ∧ w = ws) := by
    obtain ⟨g, h⟩ := jg_some h
    exact J_iret d_X_has_14 rfl (jz_nar g) (by cases h; exact ⟨rfl, rfl⟩)
  clear h
  have h := hb3
  refine J_if_eq (tgt := 13) d_X_has_6 (by decide) (fun c => ?_) (fun c => ?_)
  · have h := j_ifp c h
    refine J_iconst (v := (0 : Int32)) d_X_has_13 (by decide) ?_
    cases h
    exact kb3
  · have h := j_ifn c h
    refine J_iconst (v := (1 : Int32)) d_X_has_9 (by decide) ?_
    refine J_goto (tgt := 14) d_X_has_10 (by decide) ?_
    cases h
    exact kb3
abbrev rm_XK_tellYes : Room := { frames := 2, cells := 0, slots := 0, locals := 41 }
abbrev K_XK_tellYes (l : Launch) := JW l vwCl NsG TsG "ClassifySort$Knowledge" prog_3_method_11_code 6 none rm_XK_tellYes
def L_XK_tellYes_32 (c3 : Int32) (c4 : Int32) (k87 : jS → jB → Option (jS × jB)) : Nat → jS → jB → Int32 → Option (jS × jB)
  | 0, _, _, _ => none
  | f + 1, s, a, x5 => (if (21 : Int32) ≤ x5 then k87 (s) (a) else jb (m_X_has c3 x5) (fun v4 => (if v4 = (0 : Int32) then jb (m_X_has c4 x5) (fun v6 => (if v6 = (0 : Int32) then L_XK_tellYes_32 c3 c4 k87 f (s) (a) ((x5 + (1 : Int32))) else jg (jin x5 21) (jg (jin x5 21) (L_XK_tellYes_32 c3 c4 k87 f (s) ((va_up a 8 (upd (a 8) (x5).toNatClampNeg (((a 8) (x5).toNatClampNeg) ||| c3)))) ((x5 + (1 : Int32))))))) else jg (jin x5 21) (jg (jin x5 21) (jb (m_X_has c4 x5) (fun v8 => (if v8 = (0 : Int32) then L_XK_tellYes_32 c3 c4 k87 f (s) ((va_up a 7 (upd (a 7) (x5).toNatClampNeg (((a 7) (x5).toNatClampNeg) ||| c4)))) ((x5 + (1 : Int32))) else jg (jin x5 21) (jg (jin x5 21) (L_XK_tellYes_32 c3 c4 k87 f (s) ((va_up (va_up a 7 (upd (a 7) (x5).toNatClampNeg (((a 7) (x5).toNatClampNeg) ||| c4))) 8 (upd ((va_up a 7 (upd (a 7) (x5).toNatClampNeg (((a 7) (x5).toNatClampNeg) ||| c4))) 8) (x5).toNatClampNeg ((((va_up a 7 (upd (a 7) (x5).toNatClampNeg (((a 7) (x5).toNatClampNeg) ||| c4))) 8) (x5).toNatClampNeg) ||| c3)))) ((x5 + (1 : Int32))))))))))))
set_option maxRecDepth 100000 in
set_option maxHeartbeats 4000000 in
theorem JL_XK_tellYes_32 (l : Launch) (c3 : Int32) (c4 : Int32) (k87 : jS → jB → Option (jS × jB)) (r : jS × jB) (hk87 : ∀ (s : jS) (a : jB) (o1 : Option Value) (o2 : Option Value) (o5 : Option Value), k87 s a = some r → K_XK_tellYes l 87 [some (.ref 6), o1, o2, some (.int c3), some (.int c4), o5] [] (wX s a) (fun v w => v = none ∧ w = wX r.1 r.2)) : ∀ (f : Nat), ∀ (s : jS) (a : jB) (x5 : Int32) (o1 : Option Value) (o2 : Option Value), L_XK_tellYes_32 c3 c4 k87 f s a x5 = some r → K_XK_tellYes l 32 [some (.ref 6), o1, o2, some (.int c3), some (.int c4), some (.int x5)] [] (wX s a) (fun v w => v = none ∧ w = wX r.1 r.2) := by
  intro f
  induction f with
  | zero =>
    intro s a x5 o1 o2 h
    cases h
  | succ f ih =>
    intro s a x5 o1 o2 h
    rw [L_XK_tellYes_32] at h
    refine J_iload d_XK_tellYes_32 rfl ?_
    refine J_bipush (v := (21 : Int32)) d_XK_tellYes_34 (by decide) ?_
    refine J_icmp_ge (tgt := 87) d_XK_tellYes_36 (by decide) (fun c => ?_) (fun c => ?_)
    · have h := j_ifp c h
      exact hk87 _ _ _ _ _ h
    · have h := j_ifn c h
      refine J_iload_n d_XK_tellYes_39 rfl ?_
      refine J_iload d_XK_tellYes_40 rfl ?_
      obtain ⟨v4, e3, h⟩ := jb_some h
      refine J_cSi2N d_XK_tellYes_42 (c_X_has l _ _ _ _ e3) ts_8 ts_good rfl rfl ts_4 ns_1 dy_X_has (by decide) (Nat.le_of_ble_eq_true rfl) ts_9 ?_
      refine J_if_eq (tgt := 60) d_XK_tellYes_45 (by decide) (fun c => ?_) (fun c => ?_)
      · have h := j_ifp c h
        refine J_iload d_XK_tellYes_60 rfl ?_
        refine J_iload d_XK_tellYes_62 rfl ?_
        obtain ⟨v6, e5, h⟩ := jb_some h
        refine J_cSi2N d_XK_tellYes_64 (c_X_has l _ _ _ _ e5) ts_8 ts_good rfl rfl ts_4 ns_1 dy_X_has (by decide) (Nat.le_of_ble_eq_true rfl) ts_9 ?_
        refine J_if_eq (tgt := 81) d_XK_tellYes_67 (by decide) (fun c => ?_) (fun c => ?_)
        · have h := j_ifp c h
          refine J_iinc (v := (x5 + (1 : Int32))) d_XK_tellYes_81 rfl (by first | rfl | decide) (by decide) ?_
          refine J_goto (tgt := 32) d_XK_tellYes_84 (by decide) ?_
          exact ih _ _ _ _ _ h
        · have h := j_ifn c h
          refine J_aload_n d_XK_tellYes_70 rfl ?_
          refine J_get (j := 1) (v := .ref 8) d_XK_tellYes_71 (wX_at6 _ _) rfl in_3 (by decide) ts_6 rfl ?_
          refine J_iload d_XK_tellYes_74 rfl ?_
          refine J_dup2 d_XK_tellYes_76 rfl rfl ?_
          obtain ⟨g, h⟩ := jg_some h
          refine J_iald (f := (a 8)) d_XK_tellYes_77 (wX_at8 _ _) (jin_in g) ?_
          refine J_iload_n d_XK_tellYes_78 rfl ?_
          refine J_ior d_XK_tellYes_79 ?_
          obtain ⟨g, h⟩ := jg_some h
          refine J_iast (f := (a 8)) d_XK_tellYes_80 (wX_at8 _ _) (jin_in g) ?_
          refine J_eq (ws' := wX s (va_up a 8 (upd (a 8) (x5).toNatClampNeg (((a 8) (x5).toNatClampNeg) ||| c3)))) rfl rfl rfl (wX_ast8 _ _ _) ?_
          refine J_iinc (v := (x5 + (1 : Int32))) d_XK_tellYes_81 rfl (by first | rfl | decide) (by decide) ?_
          refine J_goto (tgt := 32) d_XK_tellYes_84 (by decide) ?_
          exact ih _ _ _ _ _ h
      · have h := j_ifn c h
        refine J_aload_n d_XK_tellYes_48 rfl ?_
        refine J_get (j := 0) (v := .ref 7) d_XK_tellYes_49 (wX_at6 _ _) rfl in_3 (by decide) ts_2 rfl ?_
        refine J_iload d_XK_tellYes_52 rfl ?_
        refine J_dup2 d_XK_tellYes_54 rfl rfl ?_
        obtain ⟨g, h⟩ := jg_some h
        refine J_iald (f := (a 7)) d_XK_tellYes_55 (wX_at7 _ _) (jin_in g) ?_
        refine J_iload d_XK_tellYes_56 rfl ?_
        refine J_ior d_XK_tellYes_58 ?_
        obtain ⟨g, h⟩ := jg_some h
        refine J_iast (f := (a 7)) d_XK_tellYes_59 (wX_at7 _ _) (jin_in g) ?_
        refine J_eq (ws' := wX s (va_up a 7 (upd (a 7) (x5).toNatClampNeg (((a 7) (x5).toNatClampNeg) ||| c4)))) rfl rfl rfl (wX_ast7 _ _ _) ?_
        refine J_iload d_XK_tellYes_60 rfl ?_
        refine J_iload d_XK_tellYes_62 rfl ?_
        obtain ⟨v8, e7, h⟩ := jb_some h
        refine J_cSi2N d_XK_tellYes_64 (c_X_has l _ _ _ _ e7) ts_8 ts_good rfl rfl ts_4 ns_1 dy_X_has (by decide) (Nat.le_of_ble_eq_true rfl) ts_9 ?_
        refine J_if_eq (tgt := 81) d_XK_tellYes_67 (by decide) (fun c => ?_) (fun c => ?_)
        · have h := j_ifp c h
          refine J_iinc (v := (x5 + (1 : Int32))) d_XK_tellYes_81 rfl (by first | rfl | decide) (by decide) ?_
          refine J_goto (tgt := 32) d_XK_tellYes_84 (by decide) ?_
          exact ih _ _ _ _ _ h
        · have h := j_ifn c h
          refine J_aload_n d_XK_tellYes_70 rfl ?_
          refine J_get (j := 1) (v := .ref 8) d_XK_tellYes_71 (wX_at6 _ _) rfl in_3 (by decide) ts_6 rfl ?_
          refine J_iload d_XK_tellYes_74 rfl ?_
          refine J_dup2 d_XK_tellYes_76 rfl rfl ?_
          obtain ⟨g, h⟩ := jg_some h
          refine J_iald (f := ((va_up a 7 (upd (a 7) (x5).toNatClampNeg (((a 7) (x5).toNatClampNeg) ||| c4))) 8)) d_XK_tellYes_77 (wX_at8 _ _) (jin_in g) ?_
          refine J_iload_n d_XK_tellYes_78 rfl ?_
          refine J_ior d_XK_tellYes_79 ?_
          obtain ⟨g, h⟩ := jg_some h
          refine J_iast (f := ((va_up a 7 (upd (a 7) (x5).toNatClampNeg (((a 7) (x5).toNatClampNeg) ||| c4))) 8)) d_XK_tellYes_80 (wX_at8 _ _) (jin_in g) ?_
          refine J_eq (ws' := wX s (va_up (va_up a 7 (upd (a 7) (x5).toNatClampNeg (((a 7) (x5).toNatClampNeg) ||| c4))) 8 (upd ((va_up a 7 (upd (a 7) (x5).toNatClampNeg (((a 7) (x5).toNatClampNeg) ||| c4))) 8) (x5).toNatClampNeg ((((va_up a 7 (upd (a 7) (x5).toNatClampNeg (((a 7) (x5).toNatClampNeg) ||| c4))) 8) (x5).toNatClampNeg) ||| c3)))) rfl rfl rfl (wX_ast8 _ _ _) ?_
          refine J_iinc (v := (x5 + (1 : Int32))) d_XK_tellYes_81 rfl (by first | rfl | decide) (by decide) ?_
          refine J_goto (tgt := 32) d_XK_tellYes_84 (by decide) ?_
          exact ih _ _ _ _ _ h
def m_XK_tellYes (s : jS) (a : jB) (p0 : Int32) (p1 : Int32) : Option (jS × jB) := jg (jin p0 21) (jb (m_X_has ((a 7) (p0).toNatClampNeg) p1) (fun v2 => (if v2 = (0 : Int32) then jg (jin p0 21) (jg (jin p1 21) (L_XK_tellYes_32 (((a 8) (p0).toNatClampNeg)) (((a 7) (p1).toNatClampNeg)) (fun s9 a10 => some (s9, a10)) jF (s) (a) ((0 : Int32)))) else some (s, a))))
set_option maxRecDepth 100000 in
set_option maxHeartbeats 4000000 in
theorem c_XK_tellYes (l : Launch) (s : jS) (a : jB) (p0 : Int32) (p1 : Int32) (r : jS × jB) (h : m_XK_tellYes s a p0 p1 = some r) : JMet l vwCl NsG (.code y_XK_tellYes prog_3_method_11_code 6 none :: TsG) y_XK_tellYes rm_XK_tellYes [.ref 6, .int p0, .int p1] (wX s a) (fun v w => v = none ∧ w = wX r.1 r.2) := by
  refine J_enter (by decide +kernel) rfl (Nat.le_of_ble_eq_true rfl) ?_
  unfold m_XK_tellYes at h
  refine J_eq (ls' := [some (.ref 6), some (.int p0), some (.int p1), none, none, none]) rfl rfl rfl rfl ?_
  refine J_aload_n d_XK_tellYes_0 rfl ?_
  refine J_get (j := 0) (v := .ref 7) d_XK_tellYes_1 (wX_at6 _ _) rfl in_3 (by decide) ts_2 rfl ?_
  refine J_iload_n d_XK_tellYes_4 rfl ?_
  obtain ⟨g, h⟩ := jg_some h
  refine J_iald (f := (a 7)) d_XK_tellYes_5 (wX_at7 _ _) (jin_in g) ?_
  refine J_iload_n d_XK_tellYes_6 rfl ?_
  obtain ⟨v2, e1, h⟩ := jb_some h
  refine J_cSi2N d_XK_tellYes_7 (c_X_has l _ _ _ _ e1) ts_8 ts_good rfl rfl ts_4 ns_1 dy_X_has (by decide) (Nat.le_of_ble_eq_true rfl) ts_9 ?_
  refine J_if_eq (tgt := 14) d_XK_tellYes_10 (by decide) (fun c => ?_) (fun c => ?_)
  · have h := j_ifp c h
    refine J_aload_n d_XK_tellYes_14 rfl ?_
    refine J_get (j := 1) (v := .ref 8) d_XK_tellYes_15 (wX_at6 _ _) rfl in_3 (by decide) ts_6 rfl ?_
    refine J_iload_n d_XK_tellYes_18 rfl ?_
    obtain ⟨g, h⟩ := jg_some h
    refine J_iald (f := (a 8)) d_XK_tellYes_19 (wX_at8 _ _) (jin_in g) ?_
    refine J_istore_n d_XK_tellYes_20 (by decide) ?_
    refine J_aload_n d_XK_tellYes_21 rfl ?_
    refine J_get (j := 0) (v := .ref 7) d_XK_tellYes_22 (wX_at6 _ _) rfl in_3 (by decide) ts_2 rfl ?_
    refine J_iload_n d_XK_tellYes_25 rfl ?_
    obtain ⟨g, h⟩ := jg_some h
    refine J_iald (f := (a 7)) d_XK_tellYes_26 (wX_at7 _ _) (jin_in g) ?_
    refine J_istore d_XK_tellYes_27 (by decide) ?_
    refine J_iconst (v := (0 : Int32)) d_XK_tellYes_29 (by decide) ?_
    refine J_istore d_XK_tellYes_30 (by decide) ?_
    refine JL_XK_tellYes_32 l _ _ _ r (fun s9 a10 o11 o12 o13 h => ?_) jF _ _ _ _ _ h
    exact J_vret d_XK_tellYes_87 rfl (by cases h; exact ⟨rfl, rfl⟩)
  · have h := j_ifn c h
    exact J_vret d_XK_tellYes_13 rfl (by cases h; exact ⟨rfl, rfl⟩)
abbrev rm_XK_union_9 : Room := { frames := 2, cells := 0, slots := 0, locals := 41 }
abbrev K_XK_union_9 (l : Launch) := JW l vwCl NsG TsG "ClassifySort$Knowledge" prog_3_method_18_code 4 (some .int) rm_XK_union_9
def L_XK_union_9_4 (s : jS) (a : jB) (c1 : Int32) (k30 : Int32 → Option (Int32)) : Nat → Int32 → Int32 → Option (Int32)
  | 0, _, _ => none
  | f + 1, x2, x3 => (if (21 : Int32) ≤ x3 then k30 (x2) else jb (m_X_has c1 x3) (fun v2 => (if v2 = (0 : Int32) then L_XK_union_9_4 s a c1 k30 f (x2) ((x3 + (1 : Int32))) else jg (jin x3 21) (L_XK_union_9_4 s a c1 k30 f ((x2 ||| ((a 9) (x3).toNatClampNeg))) ((x3 + (1 : Int32)))))))
set_option maxRecDepth 100000 in
set_option maxHeartbeats 4000000 in
theorem JL_XK_union_9_4 (l : Launch) (s : jS) (a : jB) (c1 : Int32) (k30 : Int32 → Option (Int32)) (r : Int32) (hk30 : ∀ (x2 : Int32) (o3 : Option Value), k30 x2 = some r → K_XK_union_9 l 30 [some (.ref 9), some (.int c1), some (.int x2), o3] [] (wX s a) (fun v w => v = some (.int r) ∧ w = wX s a)) : ∀ (f : Nat), ∀ (x2 : Int32) (x3 : Int32), L_XK_union_9_4 s a c1 k30 f x2 x3 = some r → K_XK_union_9 l 4 [some (.ref 9), some (.int c1), some (.int x2), some (.int x3)] [] (wX s a) (fun v w => v = some (.int r) ∧ w = wX s a) := by
  intro f
  induction f with
  | zero =>
    intro x2 x3 h
    cases h
  | succ f ih =>
    intro x2 x3 h
    rw [L_XK_union_9_4] at h
    refine J_iload_n d_XK_union_4 rfl ?_
    refine J_bipush (v := (21 : Int32)) d_XK_union_5 (by decide) ?_
    refine J_icmp_ge (tgt := 30) d_XK_union_7 (by decide) (fun c => ?_) (fun c => ?_)
    · have h := j_ifp c h
      exact hk30 _ _ h
    · have h := j_ifn c h
      refine J_iload_n d_XK_union_10 rfl ?_
      refine J_iload_n d_XK_union_11 rfl ?_
      obtain ⟨v2, e1, h⟩ := jb_some h
      refine J_cSi2N d_XK_union_12 (c_X_has l _ _ _ _ e1) ts_8 ts_good rfl rfl ts_4 ns_1 dy_X_has (by decide) (Nat.le_of_ble_eq_true rfl) ts_9 ?_
      refine J_if_eq (tgt := 24) d_XK_union_15 (by decide) (fun c => ?_) (fun c => ?_)
      · have h := j_ifp c h
        refine J_iinc (v := (x3 + (1 : Int32))) d_XK_union_24 rfl (by first | rfl | decide) (by decide) ?_
        refine J_goto (tgt := 4) d_XK_union_27 (by decide) ?_
        exact ih _ _ h
      · have h := j_ifn c h
        refine J_iload_n d_XK_union_18 rfl ?_
        refine J_aload_n d_XK_union_19 rfl ?_
        refine J_iload_n d_XK_union_20 rfl ?_
        obtain ⟨g, h⟩ := jg_some h
        refine J_iald (f := (a 9)) d_XK_union_21 (wX_at9 _ _) (jin_in g) ?_
        refine J_ior d_XK_union_22 ?_
        refine J_istore_n d_XK_union_23 (by decide) ?_
        refine J_iinc (v := (x3 + (1 : Int32))) d_XK_union_24 rfl (by first | rfl | decide) (by decide) ?_
        refine J_goto (tgt := 4) d_XK_union_27 (by decide) ?_
        exact ih _ _ h
def m_XK_union_9 (s : jS) (a : jB) (p1 : Int32) : Option (Int32) := L_XK_union_9_4 (s) (a) (p1) (fun x3 => some (x3)) jF ((0 : Int32)) ((0 : Int32))
set_option maxRecDepth 100000 in
set_option maxHeartbeats 4000000 in
theorem c_XK_union_9 (l : Launch) (s : jS) (a : jB) (p1 : Int32) (r : Int32) (h : m_XK_union_9 s a p1 = some r) : JMet l vwCl NsG (.code y_XK_union prog_3_method_18_code 4 (some .int) :: TsG) y_XK_union rm_XK_union_9 [.ref 9, .int p1] (wX s a) (fun v w => v = some (.int r) ∧ w = wX s a) := by
  refine J_enter (by decide +kernel) rfl (Nat.le_of_ble_eq_true rfl) ?_
  unfold m_XK_union_9 at h
  refine J_eq (ls' := [some (.ref 9), some (.int p1), none, none]) rfl rfl rfl rfl ?_
  refine J_iconst (v := (0 : Int32)) d_XK_union_0 (by decide) ?_
  refine J_istore_n d_XK_union_1 (by decide) ?_
  refine J_iconst (v := (0 : Int32)) d_XK_union_2 (by decide) ?_
  refine J_istore_n d_XK_union_3 (by decide) ?_
  refine JL_XK_union_9_4 l _ _ _ _ r (fun x3 o4 h => ?_) jF _ _ h
  refine J_iload_n d_XK_union_30 rfl ?_
  exact J_iret d_XK_union_31 rfl rfl (by cases h; exact ⟨rfl, rfl⟩)
abbrev rm_XK_union_8 : Room := { frames := 2, cells := 0, slots := 0, locals := 41 }
abbrev K_XK_union_8 (l : Launch) := JW l vwCl NsG TsG "ClassifySort$Knowledge" prog_3_method_18_code 4 (some .int) rm_XK_union_8
def L_XK_union_8_4 (s : jS) (a : jB) (c1 : Int32) (k30 : Int32 → Option (Int32)) : Nat → Int32 → Int32 → Option (Int32)
  | 0, _, _ => none
  | f + 1, x2, x3 => (if (21 : Int32) ≤ x3 then k30 (x2) else jb (m_X_has c1 x3) (fun v2 => (if v2 = (0 : Int32) then L_XK_union_8_4 s a c1 k30 f (x2) ((x3 + (1 : Int32))) else jg (jin x3 21) (L_XK_union_8_4 s a c1 k30 f ((x2 ||| ((a 8) (x3).toNatClampNeg))) ((x3 + (1 : Int32)))))))
set_option maxRecDepth 100000 in
set_option maxHeartbeats 4000000 in
theorem JL_XK_union_8_4 (l : Launch) (s : jS) (a : jB) (c1 : Int32) (k30 : Int32 → Option (Int32)) (r : Int32) (hk30 : ∀ (x2 : Int32) (o3 : Option Value), k30 x2 = some r → K_XK_union_8 l 30 [some (.ref 8), some (.int c1), some (.int x2), o3] [] (wX s a) (fun v w => v = some (.int r) ∧ w = wX s a)) : ∀ (f : Nat), ∀ (x2 : Int32) (x3 : Int32), L_XK_union_8_4 s a c1 k30 f x2 x3 = some r → K_XK_union_8 l 4 [some (.ref 8), some (.int c1), some (.int x2), some (.int x3)] [] (wX s a) (fun v w => v = some (.int r) ∧ w = wX s a) := by
  intro f
  induction f with
  | zero =>
    intro x2 x3 h
    cases h
  | succ f ih =>
    intro x2 x3 h
    rw [L_XK_union_8_4] at h
    refine J_iload_n d_XK_union_4 rfl ?_
    refine J_bipush (v := (21 : Int32)) d_XK_union_5 (by decide) ?_
    refine J_icmp_ge (tgt := 30) d_XK_union_7 (by decide) (fun c => ?_) (fun c => ?_)
    · have h := j_ifp c h
      exact hk30 _ _ h
    · have h := j_ifn c h
      refine J_iload_n d_XK_union_10 rfl ?_
      refine J_iload_n d_XK_union_11 rfl ?_
      obtain ⟨v2, e1, h⟩ := jb_some h
      refine J_cSi2N d_XK_union_12 (c_X_has l _ _ _ _ e1) ts_8 ts_good rfl rfl ts_4 ns_1 dy_X_has (by decide) (Nat.le_of_ble_eq_true rfl) ts_9 ?_
      refine J_if_eq (tgt := 24) d_XK_union_15 (by decide) (fun c => ?_) (fun c => ?_)
      · have h := j_ifp c h
        refine J_iinc (v := (x3 + (1 : Int32))) d_XK_union_24 rfl (by first | rfl | decide) (by decide) ?_
        refine J_goto (tgt := 4) d_XK_union_27 (by decide) ?_
        exact ih _ _ h
      · have h := j_ifn c h
        refine J_iload_n d_XK_union_18 rfl ?_
        refine J_aload_n d_XK_union_19 rfl ?_
        refine J_iload_n d_XK_union_20 rfl ?_
        obtain ⟨g, h⟩ := jg_some h
        refine J_iald (f := (a 8)) d_XK_union_21 (wX_at8 _ _) (jin_in g) ?_
        refine J_ior d_XK_union_22 ?_
        refine J_istore_n d_XK_union_23 (by decide) ?_
        refine J_iinc (v := (x3 + (1 : Int32))) d_XK_union_24 rfl (by first | rfl | decide) (by decide) ?_
        refine J_goto (tgt := 4) d_XK_union_27 (by decide) ?_
        exact ih _ _ h
def m_XK_union_8 (s : jS) (a : jB) (p1 : Int32) : Option (Int32) := L_XK_union_8_4 (s) (a) (p1) (fun x3 => some (x3)) jF ((0 : Int32)) ((0 : Int32))
set_option maxRecDepth 100000 in
set_option maxHeartbeats 4000000 in
theorem c_XK_union_8 (l : Launch) (s : jS) (a : jB) (p1 : Int32) (r : Int32) (h : m_XK_union_8 s a p1 = some r) : JMet l vwCl NsG (.code y_XK_union prog_3_method_18_code 4 (some .int) :: TsG) y_XK_union rm_XK_union_8 [.ref 8, .int p1] (wX s a) (fun v w => v = some (.int r) ∧ w = wX s a) := by
  refine J_enter (by decide +kernel) rfl (Nat.le_of_ble_eq_true rfl) ?_
  unfold m_XK_union_8 at h
  refine J_eq (ls' := [some (.ref 8), some (.int p1), none, none]) rfl rfl rfl rfl ?_
  refine J_iconst (v := (0 : Int32)) d_XK_union_0 (by decide) ?_
  refine J_istore_n d_XK_union_1 (by decide) ?_
  refine J_iconst (v := (0 : Int32)) d_XK_union_2 (by decide) ?_
  refine J_istore_n d_XK_union_3 (by decide) ?_
  refine JL_XK_union_8_4 l _ _ _ _ r (fun x3 o4 h => ?_) jF _ _ h
  refine J_iload_n d_XK_union_30 rfl ?_
  exact J_iret d_XK_union_31 rfl rfl (by cases h; exact ⟨rfl, rfl⟩)
abbrev rm_XK_close : Room := { frames := 3, cells := 0, slots := 0, locals := 64 }
abbrev K_XK_close (l : Launch) := JW l vwCl NsG TsG "ClassifySort$Knowledge" prog_3_method_12_code 3 none rm_XK_close
def L_XK_close_2 (k66 : jS → jB → Option (jS × jB)) : Nat → jS → jB → Int32 → Option (jS × jB)
  | 0, _, _, _ => none
  | f + 1, s, a, x1 => (if (21 : Int32) ≤ x1 then k66 (s) (a) else jg (jin x1 21) (jb (m_XK_union_9 s a ((a 8) (x1).toNatClampNeg)) (fun v2 => jb (m_XK_union_8 s a v2) (fun v4 => jg (jin x1 21) (jg (jin x1 21) (jg (jin x1 21) (jg (jin x1 21) (jg (jin x1 21) (L_XK_close_2 k66 f (s) ((va_up (va_up a 9 (upd (a 9) (x1).toNatClampNeg v4)) 10 (upd ((va_up a 9 (upd (a 9) (x1).toNatClampNeg v4)) 10) (x1).toNatClampNeg ((((va_up a 9 (upd (a 9) (x1).toNatClampNeg v4)) 10) (x1).toNatClampNeg) &&& (((((va_up a 9 (upd (a 9) (x1).toNatClampNeg v4)) 7) (x1).toNatClampNeg) ||| ((upd (a 9) (x1).toNatClampNeg v4) (x1).toNatClampNeg)) ^^^ (-1 : Int32)))))) ((x1 + (1 : Int32))))))))))))
set_option maxRecDepth 100000 in
set_option maxHeartbeats 4000000 in
theorem JL_XK_close_2 (l : Launch) (k66 : jS → jB → Option (jS × jB)) (r : jS × jB) (hk66 : ∀ (s : jS) (a : jB) (o1 : Option Value) (o2 : Option Value), k66 s a = some r → K_XK_close l 66 [some (.ref 6), o1, o2] [] (wX s a) (fun v w => v = none ∧ w = wX r.1 r.2)) : ∀ (f : Nat), ∀ (s : jS) (a : jB) (x1 : Int32) (o2 : Option Value), L_XK_close_2 k66 f s a x1 = some r → K_XK_close l 2 [some (.ref 6), some (.int x1), o2] [] (wX s a) (fun v w => v = none ∧ w = wX r.1 r.2) := by
  intro f
  induction f with
  | zero =>
    intro s a x1 o2 h
    cases h
  | succ f ih =>
    intro s a x1 o2 h
    rw [L_XK_close_2] at h
    refine J_iload_n d_XK_close_2 rfl ?_
    refine J_bipush (v := (21 : Int32)) d_XK_close_3 (by decide) ?_
    refine J_icmp_ge (tgt := 66) d_XK_close_5 (by decide) (fun c => ?_) (fun c => ?_)
    · have h := j_ifp c h
      exact hk66 _ _ _ _ h
    · have h := j_ifn c h
      refine J_aload_n d_XK_close_8 rfl ?_
      refine J_get (j := 2) (v := .ref 9) d_XK_close_9 (wX_at6 _ _) rfl in_3 (by decide) ts_15 rfl ?_
      refine J_aload_n d_XK_close_12 rfl ?_
      refine J_get (j := 1) (v := .ref 8) d_XK_close_13 (wX_at6 _ _) rfl in_3 (by decide) ts_6 rfl ?_
      refine J_iload_n d_XK_close_16 rfl ?_
      obtain ⟨g, h⟩ := jg_some h
      refine J_iald (f := (a 8)) d_XK_close_17 (wX_at8 _ _) (jin_in g) ?_
      obtain ⟨v2, e1, h⟩ := jb_some h
      refine J_cSi2 d_XK_close_18 (c_XK_union_9 l _ _ _ _ e1) ts_16 ts_good rfl rfl ts_11 ts_17 dy_XK_union (by decide) (Nat.le_of_ble_eq_true rfl) ts_18 ?_
      refine J_istore_n d_XK_close_21 (by decide) ?_
      refine J_aload_n d_XK_close_22 rfl ?_
      refine J_get (j := 2) (v := .ref 9) d_XK_close_23 (wX_at6 _ _) rfl in_3 (by decide) ts_15 rfl ?_
      refine J_iload_n d_XK_close_26 rfl ?_
      refine J_aload_n d_XK_close_27 rfl ?_
      refine J_get (j := 1) (v := .ref 8) d_XK_close_28 (wX_at6 _ _) rfl in_3 (by decide) ts_6 rfl ?_
      refine J_iload_n d_XK_close_31 rfl ?_
      obtain ⟨v4, e3, h⟩ := jb_some h
      refine J_cSi2 d_XK_close_32 (c_XK_union_8 l _ _ _ _ e3) ts_16 ts_good rfl rfl ts_11 ts_17 dy_XK_union (by decide) (Nat.le_of_ble_eq_true rfl) ts_18 ?_
      obtain ⟨g, h⟩ := jg_some h
      refine J_iast (f := (a 9)) d_XK_close_35 (wX_at9 _ _) (jin_in g) ?_
      refine J_eq (ws' := wX s (va_up a 9 (upd (a 9) (x1).toNatClampNeg v4))) rfl rfl rfl (wX_ast9 _ _ _) ?_
      refine J_aload_n d_XK_close_36 rfl ?_
      refine J_get (j := 3) (v := .ref 10) d_XK_close_37 (wX_at6 _ _) rfl in_3 (by decide) ts_19 rfl ?_
      refine J_iload_n d_XK_close_40 rfl ?_
      refine J_dup2 d_XK_close_41 rfl rfl ?_
      obtain ⟨g, h⟩ := jg_some h
      refine J_iald (f := ((va_up a 9 (upd (a 9) (x1).toNatClampNeg v4)) 10)) d_XK_close_42 (wX_at10 _ _) (jin_in g) ?_
      refine J_aload_n d_XK_close_43 rfl ?_
      refine J_get (j := 0) (v := .ref 7) d_XK_close_44 (wX_at6 _ _) rfl in_3 (by decide) ts_2 rfl ?_
      refine J_iload_n d_XK_close_47 rfl ?_
      obtain ⟨g, h⟩ := jg_some h
      refine J_iald (f := ((va_up a 9 (upd (a 9) (x1).toNatClampNeg v4)) 7)) d_XK_close_48 (wX_at7 _ _) (jin_in g) ?_
      refine J_aload_n d_XK_close_49 rfl ?_
      refine J_get (j := 2) (v := .ref 9) d_XK_close_50 (wX_at6 _ _) rfl in_3 (by decide) ts_15 rfl ?_
      refine J_iload_n d_XK_close_53 rfl ?_
      obtain ⟨g, h⟩ := jg_some h
      refine J_iald (f := (upd (a 9) (x1).toNatClampNeg v4)) d_XK_close_54 (wX_at9 _ _) (jin_in g) ?_
      refine J_ior d_XK_close_55 ?_
      refine J_iconst (v := (-1 : Int32)) d_XK_close_56 (by decide) ?_
      refine J_ixor d_XK_close_57 ?_
      refine J_iand d_XK_close_58 ?_
      obtain ⟨g, h⟩ := jg_some h
      refine J_iast (f := ((va_up a 9 (upd (a 9) (x1).toNatClampNeg v4)) 10)) d_XK_close_59 (wX_at10 _ _) (jin_in g) ?_
      refine J_eq (ws' := wX s (va_up (va_up a 9 (upd (a 9) (x1).toNatClampNeg v4)) 10 (upd ((va_up a 9 (upd (a 9) (x1).toNatClampNeg v4)) 10) (x1).toNatClampNeg ((((va_up a 9 (upd (a 9) (x1).toNatClampNeg v4)) 10) (x1).toNatClampNeg) &&& (((((va_up a 9 (upd (a 9) (x1).toNatClampNeg v4)) 7) (x1).toNatClampNeg) ||| ((upd (a 9) (x1).toNatClampNeg v4) (x1).toNatClampNeg)) ^^^ (-1 : Int32)))))) rfl rfl rfl (wX_ast10 _ _ _) ?_
      refine J_iinc (v := (x1 + (1 : Int32))) d_XK_close_60 rfl (by first | rfl | decide) (by decide) ?_
      refine J_goto (tgt := 2) d_XK_close_63 (by decide) ?_
      exact ih _ _ _ _ h
def m_XK_close (s : jS) (a : jB) : Option (jS × jB) := L_XK_close_2 (fun s5 a6 => some (s5, a6)) jF (s) (a) ((0 : Int32))
set_option maxRecDepth 100000 in
set_option maxHeartbeats 4000000 in
theorem c_XK_close (l : Launch) (s : jS) (a : jB) (r : jS × jB) (h : m_XK_close s a = some r) : JMet l vwCl NsG (.code y_XK_close prog_3_method_12_code 3 none :: TsG) y_XK_close rm_XK_close [.ref 6] (wX s a) (fun v w => v = none ∧ w = wX r.1 r.2) := by
  refine J_enter (by decide +kernel) rfl (Nat.le_of_ble_eq_true rfl) ?_
  unfold m_XK_close at h
  refine J_eq (ls' := [some (.ref 6), none, none]) rfl rfl rfl rfl ?_
  refine J_iconst (v := (0 : Int32)) d_XK_close_0 (by decide) ?_
  refine J_istore_n d_XK_close_1 (by decide) ?_
  refine JL_XK_close_2 l _ r (fun s5 a6 o7 o8 h => ?_) jF _ _ _ _ h
  exact J_vret d_XK_close_66 rfl (by cases h; exact ⟨rfl, rfl⟩)
abbrev rm_XK_addClass : Room := { frames := 4, cells := 0, slots := 0, locals := 86 }
abbrev K_XK_addClass (l : Launch) := JW l vwCl NsG TsG "ClassifySort$Knowledge" prog_3_method_2_code 2 none rm_XK_addClass
def m_XK_addClass (s : jS) (a : jB) (p0 : Int32) : Option (jS × jB) := jb (m_X_bit p0) (fun v2 => jg (jin p0 21) (jb (m_X_bit p0) (fun v4 => jg (jin p0 21) (jb2 (m_XK_tellYes s (va_up (va_up a 7 (upd (a 7) (p0).toNatClampNeg v2)) 8 (upd ((va_up a 7 (upd (a 7) (p0).toNatClampNeg v2)) 8) (p0).toNatClampNeg v4)) (20 : Int32) p0) (fun s6 a7 => jb2 (m_XK_close s6 a7) (fun s9 a10 => some (s9, a10)))))))
set_option maxRecDepth 100000 in
set_option maxHeartbeats 4000000 in
theorem c_XK_addClass (l : Launch) (s : jS) (a : jB) (p0 : Int32) (r : jS × jB) (h : m_XK_addClass s a p0 = some r) : JMet l vwCl NsG (.code y_XK_addClass prog_3_method_2_code 2 none :: TsG) y_XK_addClass rm_XK_addClass [.ref 6, .int p0] (wX s a) (fun v w => v = none ∧ w = wX r.1 r.2) := by
  refine J_enter (by decide +kernel) rfl (Nat.le_of_ble_eq_true rfl) ?_
  unfold m_XK_addClass at h
  refine J_eq (ls' := [some (.ref 6), some (.int p0)]) rfl rfl rfl rfl ?_
  refine J_aload_n d_XK_addClass_0 rfl ?_
  refine J_get (j := 0) (v := .ref 7) d_XK_addClass_1 (wX_at6 _ _) rfl in_3 (by decide) ts_2 rfl ?_
  refine J_iload_n d_XK_addClass_4 rfl ?_
  refine J_iload_n d_XK_addClass_5 rfl ?_
  obtain ⟨v2, e1, h⟩ := jb_some h
  refine J_cSi1N d_XK_addClass_6 (c_X_bit l _ _ _ e1) ts_3 ts_good rfl rfl ts_4 ns_0 dy_X_bit (by decide) (Nat.le_of_ble_eq_true rfl) ts_5 ?_
  obtain ⟨g, h⟩ := jg_some h
  refine J_iast (f := (a 7)) d_XK_addClass_9 (wX_at7 _ _) (jin_in g) ?_
  refine J_eq (ws' := wX s (va_up a 7 (upd (a 7) (p0).toNatClampNeg v2))) rfl rfl rfl (wX_ast7 _ _ _) ?_
  refine J_aload_n d_XK_addClass_10 rfl ?_
  refine J_get (j := 1) (v := .ref 8) d_XK_addClass_11 (wX_at6 _ _) rfl in_3 (by decide) ts_6 rfl ?_
  refine J_iload_n d_XK_addClass_14 rfl ?_
  refine J_iload_n d_XK_addClass_15 rfl ?_
  obtain ⟨v4, e3, h⟩ := jb_some h
  refine J_cSi1N d_XK_addClass_16 (c_X_bit l _ _ _ e3) ts_3 ts_good rfl rfl ts_4 ns_0 dy_X_bit (by decide) (Nat.le_of_ble_eq_true rfl) ts_5 ?_
  obtain ⟨g, h⟩ := jg_some h
  refine J_iast (f := ((va_up a 7 (upd (a 7) (p0).toNatClampNeg v2)) 8)) d_XK_addClass_19 (wX_at8 _ _) (jin_in g) ?_
  refine J_eq (ws' := wX s (va_up (va_up a 7 (upd (a 7) (p0).toNatClampNeg v2)) 8 (upd ((va_up a 7 (upd (a 7) (p0).toNatClampNeg v2)) 8) (p0).toNatClampNeg v4))) rfl rfl rfl (wX_ast8 _ _ _) ?_
  refine J_aload_n d_XK_addClass_20 rfl ?_
  refine J_bipush (v := (20 : Int32)) d_XK_addClass_21 (by decide) ?_
  refine J_iload_n d_XK_addClass_23 rfl ?_
  obtain ⟨s6, a7, e5, h⟩ := jb2_some h
  refine J_cVv2 d_XK_addClass_24 (c_XK_tellYes l _ _ _ _ _ e5) (wX_at6 _ _) rfl ts_10 ts_good rfl rfl ts_11 ts_12 dy_XK_tellYes (by decide) (Nat.le_of_ble_eq_true rfl) ts_13 ts_14 ?_
  refine J_aload_n d_XK_addClass_27 rfl ?_
  obtain ⟨s9, a10, e8, h⟩ := jb2_some h
  refine J_cVv0 d_XK_addClass_28 (c_XK_close l _ _ _ e8) (wX_at6 _ _) rfl ts_20 ts_good rfl rfl ts_11 ts_21 dy_XK_close (by decide) (Nat.le_of_ble_eq_true rfl) ts_22 ts_23 ?_
  exact J_vret d_XK_addClass_31 rfl (by cases h; exact ⟨rfl, rfl⟩)
abbrev rm_X_class0 : Room := { frames := 5, cells := 0, slots := 0, locals := 107 }
abbrev K_X_class0 (l : Launch) := JW l vwCl NsG TsG "ClassifySort" prog_1_method_2_code 1 (some .int) rm_X_class0
def m_X_class0 (s : jS) (a : jB) : Option (Int32 × jS × jB) := (if (s 0) < (20 : Int32) then jb2 (m_XK_addClass s a (s 0)) (fun s2 a3 => some (((((upd s2 3 (0 : Int32)) 0) + (1 : Int32)) - (1 : Int32)), (upd (upd s2 3 (0 : Int32)) 0 (((upd s2 3 (0 : Int32)) 0) + (1 : Int32))), a3)) else some ((-4 : Int32), s, a))
set_option maxRecDepth 100000 in
set_option maxHeartbeats 4000000 in
theorem c_X_class0 (l : Launch) (s : jS) (a : jB) (r : Int32 × jS × jB) (h : m_X_class0 s a = some r) : JMet l vwCl NsG (.code y_X_class0 prog_1_method_2_code 1 (some .int) :: TsG) y_X_class0 rm_X_class0 [.ref 0] (wX s a) (fun v w => v = some (.int r.1) ∧ w = wX r.2.1 r.2.2) := by
  refine J_enter (by decide +kernel) rfl (Nat.le_of_ble_eq_true rfl) ?_
  unfold m_X_class0 at h
  refine J_eq (ls' := [some (.ref 0)]) rfl rfl rfl rfl ?_
  refine J_aload_n d_X_class0_0 rfl ?_
  refine J_get (j := 5) (v := .int (s 0)) d_X_class0_1 (wX_at0 _ _) rfl in_0 (by decide) ts_0 rfl ?_
  refine J_bipush (v := (20 : Int32)) d_X_class0_4 (by decide) ?_
  refine J_icmp_lt (tgt := 12) d_X_class0_6 (by decide) (fun c => ?_) (fun c => ?_)
  · have h := j_ifp c h
    refine J_aload_n d_X_class0_12 rfl ?_
    refine J_get (j := 2) (v := .ref 6) d_X_class0_13 (wX_at0 _ _) rfl in_0 (by decide) ts_1 rfl ?_
    refine J_aload_n d_X_class0_16 rfl ?_
    refine J_get (j := 5) (v := .int (s 0)) d_X_class0_17 (wX_at0 _ _) rfl in_0 (by decide) ts_0 rfl ?_
    obtain ⟨s2, a3, e1, h⟩ := jb2_some h
    refine J_cVv1 d_X_class0_20 (c_XK_addClass l _ _ _ _ e1) (wX_at6 _ _) rfl ts_24 ts_good rfl rfl ts_11 ts_25 dy_XK_addClass (by decide) (Nat.le_of_ble_eq_true rfl) ts_26 ts_27 ?_
    refine J_aload_n d_X_class0_23 rfl ?_
    refine J_iconst (v := (0 : Int32)) d_X_class0_24 (by decide) ?_
    refine J_put (j := 8) d_X_class0_25 (wX_at0 _ _) rfl in_0 ty_X tyok_X nok_X (by decide) ts_28 rfl (tyok_X 8 (by decide)) (by decide) (by decide) (Nat.le_of_ble_eq_true rfl) ?_
    refine J_eq rfl rfl rfl (wX_put3 _ _ _) ?_
    refine J_aload_n d_X_class0_28 rfl ?_
    refine J_dup d_X_class0_29 rfl ?_
    refine J_get (j := 5) (v := .int ((upd s2 3 (0 : Int32)) 0)) d_X_class0_30 (wX_at0 _ _) rfl in_0 (by decide) ts_0 rfl ?_
    refine J_iconst (v := (1 : Int32)) d_X_class0_33 (by decide) ?_
    refine J_iadd d_X_class0_34 ?_
    refine J_put (j := 5) d_X_class0_35 (wX_at0 _ _) rfl in_0 ty_X tyok_X nok_X (by decide) ts_0 rfl (tyok_X 5 (by decide)) rfl rfl (Nat.le_of_ble_eq_true rfl) ?_
    refine J_eq rfl rfl rfl (wX_put0 _ _ _) ?_
    refine J_aload_n d_X_class0_38 rfl ?_
    refine J_get (j := 5) (v := .int (((upd s2 3 (0 : Int32)) 0) + (1 : Int32))) d_X_class0_39 (wX_at0 _ _) rfl in_0 (by decide) ts_0 rfl ?_
    refine J_iconst (v := (1 : Int32)) d_X_class0_42 (by decide) ?_
    refine J_isub d_X_class0_43 ?_
    exact J_iret d_X_class0_44 rfl rfl (by cases h; exact ⟨rfl, rfl⟩)
  · have h := j_ifn c h
    refine J_bipush (v := (-4 : Int32)) d_X_class0_9 (by decide) ?_
    exact J_iret d_X_class0_11 rfl rfl (by cases h; exact ⟨rfl, rfl⟩)
abbrev rm_X_thing : Room := { frames := 0, cells := 0, slots := 0, locals := 0 }
abbrev K_X_thing (l : Launch) := JW l vwCl NsG TsG "ClassifySort" prog_1_method_3_code 1 (some .int) rm_X_thing
def m_X_thing (s : jS) (a : jB) : Option (Int32 × jS × jB) := (if (s 1) < (8 : Int32) then some ((((s 1) + (1 : Int32)) - (1 : Int32)), (upd s 1 ((s 1) + (1 : Int32))), a) else some ((-4 : Int32), s, a))
set_option maxRecDepth 100000 in
set_option maxHeartbeats 4000000 in
theorem c_X_thing (l : Launch) (s : jS) (a : jB) (r : Int32 × jS × jB) (h : m_X_thing s a = some r) : JMet l vwCl NsG (.code y_X_thing prog_1_method_3_code 1 (some .int) :: TsG) y_X_thing rm_X_thing [.ref 0] (wX s a) (fun v w => v = some (.int r.1) ∧ w = wX r.2.1 r.2.2) := by
  refine J_enter (by decide +kernel) rfl (Nat.le_of_ble_eq_true rfl) ?_
  unfold m_X_thing at h
  refine J_eq (ls' := [some (.ref 0)]) rfl rfl rfl rfl ?_
  refine J_aload_n d_X_thing_0 rfl ?_
  refine J_get (j := 6) (v := .int (s 1)) d_X_thing_1 (wX_at0 _ _) rfl in_0 (by decide) ts_29 rfl ?_
  refine J_bipush (v := (8 : Int32)) d_X_thing_4 (by decide) ?_
  refine J_icmp_lt (tgt := 12) d_X_thing_6 (by decide) (fun c => ?_) (fun c => ?_)
  · have h := j_ifp c h
    refine J_aload_n d_X_thing_12 rfl ?_
    refine J_dup d_X_thing_13 rfl ?_
    refine J_get (j := 6) (v := .int (s 1)) d_X_thing_14 (wX_at0 _ _) rfl in_0 (by decide) ts_29 rfl ?_
    refine J_iconst (v := (1 : Int32)) d_X_thing_17 (by decide) ?_
    refine J_iadd d_X_thing_18 ?_
    refine J_put (j := 6) d_X_thing_19 (wX_at0 _ _) rfl in_0 ty_X tyok_X nok_X (by decide) ts_29 rfl (tyok_X 6 (by decide)) rfl rfl (Nat.le_of_ble_eq_true rfl) ?_
    refine J_eq rfl rfl rfl (wX_put1 _ _ _) ?_
    refine J_aload_n d_X_thing_22 rfl ?_
    refine J_get (j := 6) (v := .int ((s 1) + (1 : Int32))) d_X_thing_23 (wX_at0 _ _) rfl in_0 (by decide) ts_29 rfl ?_
    refine J_iconst (v := (1 : Int32)) d_X_thing_26 (by decide) ?_
    refine J_isub d_X_thing_27 ?_
    exact J_iret d_X_thing_28 rfl rfl (by cases h; exact ⟨rfl, rfl⟩)
  · have h := j_ifn c h
    refine J_bipush (v := (-4 : Int32)) d_X_thing_9 (by decide) ?_
    exact J_iret d_X_thing_11 rfl rfl (by cases h; exact ⟨rfl, rfl⟩)
abbrev rm_X_isClass : Room := { frames := 0, cells := 0, slots := 0, locals := 0 }
abbrev K_X_isClass (l : Launch) := JW l vwCl NsG TsG "ClassifySort" prog_1_method_19_code 2 (some .boolean) rm_X_isClass
def m_X_isClass (s : jS) (a : jB) (p0 : Int32) : Option (Int32) := jb (if p0 < (0 : Int32) then some (0 : Int32) else (if (s 0) ≤ p0 then some (0 : Int32) else some (1 : Int32))) (fun b1 => jg (jz b1) (some (b1)))
set_option maxRecDepth 100000 in
set_option maxHeartbeats 4000000 in
theorem c_X_isClass (l : Launch) (s : jS) (a : jB) (p0 : Int32) (r : Int32) (h : m_X_isClass s a p0 = some r) : JMet l vwCl NsG (.code y_X_isClass prog_1_method_19_code 2 (some .boolean) :: TsG) y_X_isClass rm_X_isClass [.ref 0, .int p0] (wX s a) (fun v w => v = some (.int r) ∧ w = wX s a) := by
  refine J_enter (by decide +kernel) rfl (Nat.le_of_ble_eq_true rfl) ?_
  unfold m_X_isClass at h
  refine J_eq (ls' := [some (.ref 0), some (.int p0)]) rfl rfl rfl rfl ?_
  refine J_iload_n d_X_isClass_0 rfl ?_
  obtain ⟨b1, hb1, h⟩ := jb_some h
  have kb1 : K_X_isClass l 17 [some (.ref 0), some (.int p0)] [.int b1] (wX s a) (fun v w => v = some (.int r) ∧ w = wX s a) := by
    obtain ⟨g, h⟩ := jg_some h
    exact J_iret d_X_isClass_17 rfl (jz_nar g) (by cases h; exact ⟨rfl, rfl⟩)
  clear h
  have h := hb1
  refine J_if_lt (tgt := 16) d_X_isClass_1 (by decide) (fun c => ?_) (fun c => ?_)
  · have h := j_ifp c h
    refine J_iconst (v := (0 : Int32)) d_X_isClass_16 (by decide) ?_
    cases h
    exact kb1
  · have h := j_ifn c h
    refine J_iload_n d_X_isClass_4 rfl ?_
    refine J_aload_n d_X_isClass_5 rfl ?_
    refine J_get (j := 5) (v := .int (s 0)) d_X_isClass_6 (wX_at0 _ _) rfl in_0 (by decide) ts_0 rfl ?_
    refine J_icmp_ge (tgt := 16) d_X_isClass_9 (by decide) (fun c => ?_) (fun c => ?_)
    · have h := j_ifp c h
      refine J_iconst (v := (0 : Int32)) d_X_isClass_16 (by decide) ?_
      cases h
      exact kb1
    · have h := j_ifn c h
      refine J_iconst (v := (1 : Int32)) d_X_isClass_12 (by decide) ?_
      refine J_goto (tgt := 17) d_X_isClass_13 (by decide) ?_
      cases h
      exact kb1
abbrev rm_X_isGoal : Room := { frames := 1, cells := 0, slots := 0, locals := 21 }
abbrev K_X_isGoal (l : Launch) := JW l vwCl NsG TsG "ClassifySort" prog_1_method_21_code 2 (some .boolean) rm_X_isGoal
def m_X_isGoal (s : jS) (a : jB) (p0 : Int32) : Option (Int32) := jb (if p0 = (-1 : Int32) then some (1 : Int32) else jb (m_X_isClass s a p0) (fun v3 => (if v3 = (0 : Int32) then some (0 : Int32) else some (1 : Int32)))) (fun b1 => jg (jz b1) (some (b1)))
set_option maxRecDepth 100000 in
set_option maxHeartbeats 4000000 in
theorem c_X_isGoal (l : Launch) (s : jS) (a : jB) (p0 : Int32) (r : Int32) (h : m_X_isGoal s a p0 = some r) : JMet l vwCl NsG (.code y_X_isGoal prog_1_method_21_code 2 (some .boolean) :: TsG) y_X_isGoal rm_X_isGoal [.ref 0, .int p0] (wX s a) (fun v w => v = some (.int r) ∧ w = wX s a) := by
  refine J_enter (by decide +kernel) rfl (Nat.le_of_ble_eq_true rfl) ?_
  unfold m_X_isGoal at h
  refine J_eq (ls' := [some (.ref 0), some (.int p0)]) rfl rfl rfl rfl ?_
  refine J_iload_n d_X_isGoal_0 rfl ?_
  refine J_iconst (v := (-1 : Int32)) d_X_isGoal_1 (by decide) ?_
  obtain ⟨b1, hb1, h⟩ := jb_some h
  have kb1 : K_X_isGoal l 18 [some (.ref 0), some (.int p0)] [.int b1] (wX s a) (fun v w => v = some (.int r) ∧ w = wX s a) := by
    obtain ⟨g, h⟩ := jg_some h
    exact J_iret d_X_isGoal_18 rfl (jz_nar g) (by cases h; exact ⟨rfl, rfl⟩)
  clear h
  have h := hb1
  refine J_icmp_eq (tgt := 13) d_X_isGoal_2 (by decide) (fun c => ?_) (fun c => ?_)
  · have h := j_ifp c h
    refine J_iconst (v := (1 : Int32)) d_X_isGoal_13 (by decide) ?_
    refine J_goto (tgt := 18) d_X_isGoal_14 (by decide) ?_
    cases h
    exact kb1
  · have h := j_ifn c h
    refine J_aload_n d_X_isGoal_5 rfl ?_
    refine J_iload_n d_X_isGoal_6 rfl ?_
    obtain ⟨v3, e2, h⟩ := jb_some h
    refine J_cVi1 d_X_isGoal_7 (c_X_isClass l _ _ _ _ e2) (wX_at0 _ _) rfl ts_30 ts_good rfl rfl ts_4 ts_31 dy_X_isClass (by decide) (Nat.le_of_ble_eq_true rfl) ts_32 ts_33 ?_
    refine J_if_eq (tgt := 17) d_X_isGoal_10 (by decide) (fun c => ?_) (fun c => ?_)
    · have h := j_ifp c h
      refine J_iconst (v := (0 : Int32)) d_X_isGoal_17 (by decide) ?_
      cases h
      exact kb1
    · have h := j_ifn c h
      refine J_iconst (v := (1 : Int32)) d_X_isGoal_13 (by decide) ?_
      refine J_goto (tgt := 18) d_X_isGoal_14 (by decide) ?_
      cases h
      exact kb1
abbrev rm_XA_isFull : Room := { frames := 0, cells := 0, slots := 0, locals := 0 }
abbrev K_XA_isFull (l : Launch) := JW l vwCl NsG TsG "ClassifySort$Axioms" prog_2_method_2_code 1 (some .boolean) rm_XA_isFull
def m_XA_isFull (s : jS) (a : jB) : Option (Int32) := jb (if (s 4) < (40 : Int32) then some (0 : Int32) else some (1 : Int32)) (fun b1 => jg (jz b1) (some (b1)))
set_option maxRecDepth 100000 in
set_option maxHeartbeats 4000000 in
theorem c_XA_isFull (l : Launch) (s : jS) (a : jB) (r : Int32) (h : m_XA_isFull s a = some r) : JMet l vwCl NsG (.code y_XA_isFull prog_2_method_2_code 1 (some .boolean) :: TsG) y_XA_isFull rm_XA_isFull [.ref 1] (wX s a) (fun v w => v = some (.int r) ∧ w = wX s a) := by
  refine J_enter (by decide +kernel) rfl (Nat.le_of_ble_eq_true rfl) ?_
  unfold m_XA_isFull at h
  refine J_eq (ls' := [some (.ref 1)]) rfl rfl rfl rfl ?_
  refine J_aload_n d_XA_isFull_0 rfl ?_
  refine J_get (j := 2) (v := .int (s 4)) d_XA_isFull_1 (wX_at1 _ _) rfl in_1 (by decide) ts_39 rfl ?_
  refine J_bipush (v := (40 : Int32)) d_XA_isFull_4 (by decide) ?_
  obtain ⟨b1, hb1, h⟩ := jb_some h
  have kb1 : K_XA_isFull l 14 [some (.ref 1)] [.int b1] (wX s a) (fun v w => v = some (.int r) ∧ w = wX s a) := by
    obtain ⟨g, h⟩ := jg_some h
    exact J_iret d_XA_isFull_14 rfl (jz_nar g) (by cases h; exact ⟨rfl, rfl⟩)
  clear h
  have h := hb1
  refine J_icmp_lt (tgt := 13) d_XA_isFull_6 (by decide) (fun c => ?_) (fun c => ?_)
  · have h := j_ifp c h
    refine J_iconst (v := (0 : Int32)) d_XA_isFull_13 (by decide) ?_
    cases h
    exact kb1
  · have h := j_ifn c h
    refine J_iconst (v := (1 : Int32)) d_XA_isFull_9 (by decide) ?_
    refine J_goto (tgt := 14) d_XA_isFull_10 (by decide) ?_
    cases h
    exact kb1
abbrev rm_X_slot : Room := { frames := 0, cells := 0, slots := 0, locals := 0 }
abbrev K_X_slot (l : Launch) := JW l vwCl NsG TsG "ClassifySort" prog_1_method_23_code 1 (some .int) rm_X_slot
def m_X_slot (p0 : Int32) : Option (Int32) := jb (if p0 = (-1 : Int32) then some (20 : Int32) else some p0) (fun b1 => some (b1))
set_option maxRecDepth 100000 in
set_option maxHeartbeats 4000000 in
theorem c_X_slot (l : Launch) (ws : jW) (p0 : Int32) (r : Int32) (h : m_X_slot p0 = some r) : JMet l vwCl NsG (.code y_X_slot prog_1_method_23_code 1 (some .int) :: TsG) y_X_slot rm_X_slot [.int p0] ws (fun v w => v = some (.int r) ∧ w = ws) := by
  refine J_enter (by decide +kernel) rfl (Nat.le_of_ble_eq_true rfl) ?_
  unfold m_X_slot at h
  refine J_eq (ls' := [some (.int p0)]) rfl rfl rfl rfl ?_
  refine J_iload_n d_X_slot_0 rfl ?_
  refine J_iconst (v := (-1 : Int32)) d_X_slot_1 (by decide) ?_
  obtain ⟨b1, hb1, h⟩ := jb_some h
  have kb1 : K_X_slot l 11 [some (.int p0)] [.int b1] ws (fun v w => v = some (.int r) ∧ w = ws) := by
    exact J_iret d_X_slot_11 rfl rfl (by cases h; exact ⟨rfl, rfl⟩)
  clear h
  have h := hb1
  refine J_icmp_ne (tgt := 10) d_X_slot_2 (by decide) (fun c => ?_) (fun c => ?_)
  · have h := j_ifn c h
    refine J_iload_n d_X_slot_10 rfl ?_
    cases h
    exact kb1
  · have h := j_ifp c h
    refine J_bipush (v := (20 : Int32)) d_X_slot_5 (by decide) ?_
    refine J_goto (tgt := 11) d_X_slot_7 (by decide) ?_
    cases h
    exact kb1
abbrev rm_XA_add : Room := { frames := 1, cells := 0, slots := 0, locals := 20 }
abbrev K_XA_add (l : Launch) := JW l vwCl NsG TsG "ClassifySort$Axioms" prog_2_method_7_code 3 (some .int) rm_XA_add
def m_XA_add (s : jS) (a : jB) (p0 : Int32) (p1 : Int32) : Option (Int32 × jS × jB) := jb (m_XA_isFull s a) (fun v2 => (if v2 = (0 : Int32) then jg (jin (s 4) 40) (jg (jin (s 4) 40) (some ((((s 4) + (1 : Int32)) - (1 : Int32)), (upd (upd s 4 ((s 4) + (1 : Int32))) 5 (((upd s 4 ((s 4) + (1 : Int32))) 5) + (1 : Int32))), (va_up (va_up a 2 (upd (a 2) ((s 4)).toNatClampNeg p0)) 3 (upd ((va_up a 2 (upd (a 2) ((s 4)).toNatClampNeg p0)) 3) ((s 4)).toNatClampNeg p1))))) else some ((-4 : Int32), s, a)))
set_option maxRecDepth 100000 in
set_option maxHeartbeats 4000000 in
theorem c_XA_add (l : Launch) (s : jS) (a : jB) (p0 : Int32) (p1 : Int32) (r : Int32 × jS × jB) (h : m_XA_add s a p0 p1 = some r) : JMet l vwCl NsG (.code y_XA_add prog_2_method_7_code 3 (some .int) :: TsG) y_XA_add rm_XA_add [.ref 1, .int p0, .int p1] (wX s a) (fun v w => v = some (.int r.1) ∧ w = wX r.2.1 r.2.2) := by
  refine J_enter (by decide +kernel) rfl (Nat.le_of_ble_eq_true rfl) ?_
  unfold m_XA_add at h
  refine J_eq (ls' := [some (.ref 1), some (.int p0), some (.int p1)]) rfl rfl rfl rfl ?_
  refine J_aload_n d_XA_add_0 rfl ?_
  obtain ⟨v2, e1, h⟩ := jb_some h
  refine J_cVi0 d_XA_add_1 (c_XA_isFull l _ _ _ e1) (wX_at1 _ _) rfl ts_40 ts_good rfl rfl ts_41 ts_48 dy_XA_isFull (by decide) (Nat.le_of_ble_eq_true rfl) ts_43 ts_44 ?_
  refine J_if_eq (tgt := 10) d_XA_add_4 (by decide) (fun c => ?_) (fun c => ?_)
  · have h := j_ifp c h
    refine J_aload_n d_XA_add_10 rfl ?_
    refine J_get (j := 0) (v := .ref 2) d_XA_add_11 (wX_at1 _ _) rfl in_1 (by decide) ts_49 rfl ?_
    refine J_aload_n d_XA_add_14 rfl ?_
    refine J_get (j := 2) (v := .int (s 4)) d_XA_add_15 (wX_at1 _ _) rfl in_1 (by decide) ts_39 rfl ?_
    refine J_iload_n d_XA_add_18 rfl ?_
    obtain ⟨g, h⟩ := jg_some h
    refine J_iast (f := (a 2)) d_XA_add_19 (wX_at2 _ _) (jin_in g) ?_
    refine J_eq (ws' := wX s (va_up a 2 (upd (a 2) ((s 4)).toNatClampNeg p0))) rfl rfl rfl (wX_ast2 _ _ _) ?_
    refine J_aload_n d_XA_add_20 rfl ?_
    refine J_get (j := 1) (v := .ref 3) d_XA_add_21 (wX_at1 _ _) rfl in_1 (by decide) ts_50 rfl ?_
    refine J_aload_n d_XA_add_24 rfl ?_
    refine J_get (j := 2) (v := .int (s 4)) d_XA_add_25 (wX_at1 _ _) rfl in_1 (by decide) ts_39 rfl ?_
    refine J_iload_n d_XA_add_28 rfl ?_
    obtain ⟨g, h⟩ := jg_some h
    refine J_iast (f := ((va_up a 2 (upd (a 2) ((s 4)).toNatClampNeg p0)) 3)) d_XA_add_29 (wX_at3 _ _) (jin_in g) ?_
    refine J_eq (ws' := wX s (va_up (va_up a 2 (upd (a 2) ((s 4)).toNatClampNeg p0)) 3 (upd ((va_up a 2 (upd (a 2) ((s 4)).toNatClampNeg p0)) 3) ((s 4)).toNatClampNeg p1))) rfl rfl rfl (wX_ast3 _ _ _) ?_
    refine J_aload_n d_XA_add_30 rfl ?_
    refine J_dup d_XA_add_31 rfl ?_
    refine J_get (j := 2) (v := .int (s 4)) d_XA_add_32 (wX_at1 _ _) rfl in_1 (by decide) ts_39 rfl ?_
    refine J_iconst (v := (1 : Int32)) d_XA_add_35 (by decide) ?_
    refine J_iadd d_XA_add_36 ?_
    refine J_put (j := 2) d_XA_add_37 (wX_at1 _ _) rfl in_1 ty_XA tyok_XA nok_XA (by decide) ts_39 rfl (tyok_XA 2 (by decide)) rfl rfl (Nat.le_of_ble_eq_true rfl) ?_
    refine J_eq rfl rfl rfl (wX_put4 _ _ _) ?_
    refine J_aload_n d_XA_add_40 rfl ?_
    refine J_dup d_XA_add_41 rfl ?_
    refine J_get (j := 3) (v := .int ((upd s 4 ((s 4) + (1 : Int32))) 5)) d_XA_add_42 (wX_at1 _ _) rfl in_1 (by decide) ts_51 rfl ?_
    refine J_iconst (v := (1 : Int32)) d_XA_add_45 (by decide) ?_
    refine J_iadd d_XA_add_46 ?_
    refine J_put (j := 3) d_XA_add_47 (wX_at1 _ _) rfl in_1 ty_XA tyok_XA nok_XA (by decide) ts_51 rfl (tyok_XA 3 (by decide)) rfl rfl (Nat.le_of_ble_eq_true rfl) ?_
    refine J_eq rfl rfl rfl (wX_put5 _ _ _) ?_
    refine J_aload_n d_XA_add_50 rfl ?_
    refine J_get (j := 2) (v := .int ((s 4) + (1 : Int32))) d_XA_add_51 (wX_at1 _ _) rfl in_1 (by decide) ts_39 rfl ?_
    refine J_iconst (v := (1 : Int32)) d_XA_add_54 (by decide) ?_
    refine J_isub d_XA_add_55 ?_
    exact J_iret d_XA_add_56 rfl rfl (by cases h; exact ⟨rfl, rfl⟩)
  · have h := j_ifn c h
    refine J_bipush (v := (-4 : Int32)) d_XA_add_7 (by decide) ?_
    exact J_iret d_XA_add_9 rfl rfl (by cases h; exact ⟨rfl, rfl⟩)
abbrev rm_XA_leftOf : Room := { frames := 0, cells := 0, slots := 0, locals := 0 }
abbrev K_XA_leftOf (l : Launch) := JW l vwCl NsG TsG "ClassifySort$Axioms" prog_2_method_5_code 2 (some .int) rm_XA_leftOf
def m_XA_leftOf (s : jS) (a : jB) (p0 : Int32) : Option (Int32) := jb (if p0 < (0 : Int32) then some (0 : Int32) else (if (s 4) ≤ p0 then some (0 : Int32) else jg (jin p0 40) (some ((a 2) (p0).toNatClampNeg)))) (fun b1 => some (b1))
set_option maxRecDepth 100000 in
set_option maxHeartbeats 4000000 in
theorem c_XA_leftOf (l : Launch) (s : jS) (a : jB) (p0 : Int32) (r : Int32) (h : m_XA_leftOf s a p0 = some r) : JMet l vwCl NsG (.code y_XA_leftOf prog_2_method_5_code 2 (some .int) :: TsG) y_XA_leftOf rm_XA_leftOf [.ref 1, .int p0] (wX s a) (fun v w => v = some (.int r) ∧ w = wX s a) := by
  refine J_enter (by decide +kernel) rfl (Nat.le_of_ble_eq_true rfl) ?_
  unfold m_XA_leftOf at h
  refine J_eq (ls' := [some (.ref 1), some (.int p0)]) rfl rfl rfl rfl ?_
  refine J_iload_n d_XA_leftOf_0 rfl ?_
  obtain ⟨b1, hb1, h⟩ := jb_some h
  have kb1 : K_XA_leftOf l 22 [some (.ref 1), some (.int p0)] [.int b1] (wX s a) (fun v w => v = some (.int r) ∧ w = wX s a) := by
    exact J_iret d_XA_leftOf_22 rfl rfl (by cases h; exact ⟨rfl, rfl⟩)
  clear h
  have h := hb1
  refine J_if_lt (tgt := 21) d_XA_leftOf_1 (by decide) (fun c => ?_) (fun c => ?_)
  · have h := j_ifp c h
    refine J_iconst (v := (0 : Int32)) d_XA_leftOf_21 (by decide) ?_
    cases h
    exact kb1
  · have h := j_ifn c h
    refine J_iload_n d_XA_leftOf_4 rfl ?_
    refine J_aload_n d_XA_leftOf_5 rfl ?_
    refine J_get (j := 2) (v := .int (s 4)) d_XA_leftOf_6 (wX_at1 _ _) rfl in_1 (by decide) ts_39 rfl ?_
    refine J_icmp_ge (tgt := 21) d_XA_leftOf_9 (by decide) (fun c => ?_) (fun c => ?_)
    · have h := j_ifp c h
      refine J_iconst (v := (0 : Int32)) d_XA_leftOf_21 (by decide) ?_
      cases h
      exact kb1
    · have h := j_ifn c h
      refine J_aload_n d_XA_leftOf_12 rfl ?_
      refine J_get (j := 0) (v := .ref 2) d_XA_leftOf_13 (wX_at1 _ _) rfl in_1 (by decide) ts_49 rfl ?_
      refine J_iload_n d_XA_leftOf_16 rfl ?_
      obtain ⟨g, h⟩ := jg_some h
      refine J_iald (f := (a 2)) d_XA_leftOf_17 (wX_at2 _ _) (jin_in g) ?_
      refine J_goto (tgt := 22) d_XA_leftOf_18 (by decide) ?_
      cases h
      exact kb1
abbrev rm_XA_touchedBy : Room := { frames := 1, cells := 0, slots := 0, locals := 21 }
abbrev K_XA_touchedBy (l : Launch) := JW l vwCl NsG TsG "ClassifySort$Axioms" prog_2_method_10_code 6 (some .int) rm_XA_touchedBy
def L_XA_touchedBy_20 (s : jS) (a : jB) (k78 : Int32 → Option (Int32)) : Nat → Int32 → Int32 → Option (Int32)
  | 0, _, _ => none
  | f + 1, x2, x5 => (if (s 4) ≤ x5 then k78 (x2) else jg (jin x5 40) ((if ((a 2) (x5).toNatClampNeg) = (0 : Int32) then L_XA_touchedBy_20 s a k78 f (x2) ((x5 + (1 : Int32))) else jg (jin x5 40) (jg (jin x5 40) (jb (m_X_bit ((a 3) (x5).toNatClampNeg)) (fun v4 => (if ((((a 2) (x5).toNatClampNeg) ||| v4) &&& x2) = (0 : Int32) then L_XA_touchedBy_20 s a k78 f (x2) ((x5 + (1 : Int32))) else jg (jin x5 40) (L_XA_touchedBy_20 s a k78 f ((x2 ||| ((a 2) (x5).toNatClampNeg))) ((x5 + (1 : Int32)))))))))))
set_option maxRecDepth 100000 in
set_option maxHeartbeats 4000000 in
theorem JL_XA_touchedBy_20 (l : Launch) (s : jS) (a : jB) (c3 : Int32) (c4 : Int32) (k78 : Int32 → Option (Int32)) (r : Int32) (hk78 : ∀ (x2 : Int32) (o1 : Option Value) (o5 : Option Value), k78 x2 = some r → K_XA_touchedBy l 78 [some (.ref 1), o1, some (.int x2), some (.int c3), some (.int c4), o5] [] (wX s a) (fun v w => v = some (.int r) ∧ w = wX s a)) : ∀ (f : Nat), ∀ (x2 : Int32) (x5 : Int32) (o1 : Option Value), L_XA_touchedBy_20 s a k78 f x2 x5 = some r → K_XA_touchedBy l 20 [some (.ref 1), o1, some (.int x2), some (.int c3), some (.int c4), some (.int x5)] [] (wX s a) (fun v w => v = some (.int r) ∧ w = wX s a) := by
  intro f
  induction f with
  | zero =>
    intro x2 x5 o1 h
    cases h
  | succ f ih =>
    intro x2 x5 o1 h
    rw [L_XA_touchedBy_20] at h
    refine J_iload d_XA_touchedBy_20 rfl ?_
    refine J_aload_n d_XA_touchedBy_22 rfl ?_
    refine J_get (j := 2) (v := .int (s 4)) d_XA_touchedBy_23 (wX_at1 _ _) rfl in_1 (by decide) ts_39 rfl ?_
    refine J_icmp_ge (tgt := 78) d_XA_touchedBy_26 (by decide) (fun c => ?_) (fun c => ?_)
    · have h := j_ifp c h
      exact hk78 _ _ _ h
    · have h := j_ifn c h
      refine J_aload_n d_XA_touchedBy_29 rfl ?_
      refine J_get (j := 0) (v := .ref 2) d_XA_touchedBy_30 (wX_at1 _ _) rfl in_1 (by decide) ts_49 rfl ?_
      refine J_iload d_XA_touchedBy_33 rfl ?_
      obtain ⟨g, h⟩ := jg_some h
      refine J_iald (f := (a 2)) d_XA_touchedBy_35 (wX_at2 _ _) (jin_in g) ?_
      refine J_if_eq (tgt := 72) d_XA_touchedBy_36 (by decide) (fun c => ?_) (fun c => ?_)
      · have h := j_ifp c h
        refine J_iinc (v := (x5 + (1 : Int32))) d_XA_touchedBy_72 rfl (by first | rfl | decide) (by decide) ?_
        refine J_goto (tgt := 20) d_XA_touchedBy_75 (by decide) ?_
        exact ih _ _ _ h
      · have h := j_ifn c h
        refine J_aload_n d_XA_touchedBy_39 rfl ?_
        refine J_get (j := 0) (v := .ref 2) d_XA_touchedBy_40 (wX_at1 _ _) rfl in_1 (by decide) ts_49 rfl ?_
        refine J_iload d_XA_touchedBy_43 rfl ?_
        obtain ⟨g, h⟩ := jg_some h
        refine J_iald (f := (a 2)) d_XA_touchedBy_45 (wX_at2 _ _) (jin_in g) ?_
        refine J_aload_n d_XA_touchedBy_46 rfl ?_
        refine J_get (j := 1) (v := .ref 3) d_XA_touchedBy_47 (wX_at1 _ _) rfl in_1 (by decide) ts_50 rfl ?_
        refine J_iload d_XA_touchedBy_50 rfl ?_
        obtain ⟨g, h⟩ := jg_some h
        refine J_iald (f := (a 3)) d_XA_touchedBy_52 (wX_at3 _ _) (jin_in g) ?_
        obtain ⟨v4, e3, h⟩ := jb_some h
        refine J_cSi1N d_XA_touchedBy_53 (c_X_bit l _ _ _ e3) ts_3 ts_good rfl rfl ts_4 ns_2 dy_X_bit (by decide) (Nat.le_of_ble_eq_true rfl) ts_5 ?_
        refine J_ior d_XA_touchedBy_56 ?_
        refine J_iload_n d_XA_touchedBy_57 rfl ?_
        refine J_iand d_XA_touchedBy_58 ?_
        refine J_if_eq (tgt := 72) d_XA_touchedBy_59 (by decide) (fun c => ?_) (fun c => ?_)
        · have h := j_ifp c h
          refine J_iinc (v := (x5 + (1 : Int32))) d_XA_touchedBy_72 rfl (by first | rfl | decide) (by decide) ?_
          refine J_goto (tgt := 20) d_XA_touchedBy_75 (by decide) ?_
          exact ih _ _ _ h
        · have h := j_ifn c h
          refine J_iload_n d_XA_touchedBy_62 rfl ?_
          refine J_aload_n d_XA_touchedBy_63 rfl ?_
          refine J_get (j := 0) (v := .ref 2) d_XA_touchedBy_64 (wX_at1 _ _) rfl in_1 (by decide) ts_49 rfl ?_
          refine J_iload d_XA_touchedBy_67 rfl ?_
          obtain ⟨g, h⟩ := jg_some h
          refine J_iald (f := (a 2)) d_XA_touchedBy_69 (wX_at2 _ _) (jin_in g) ?_
          refine J_ior d_XA_touchedBy_70 ?_
          refine J_istore_n d_XA_touchedBy_71 (by decide) ?_
          refine J_iinc (v := (x5 + (1 : Int32))) d_XA_touchedBy_72 rfl (by first | rfl | decide) (by decide) ?_
          refine J_goto (tgt := 20) d_XA_touchedBy_75 (by decide) ?_
          exact ih _ _ _ h
def L_XA_touchedBy_8 (s : jS) (a : jB) (k92 : Int32 → Option (Int32)) : Nat → Int32 → Int32 → Option (Int32)
  | 0, _, _ => none
  | f + 1, x2, x3 => (if (20 : Int32) ≤ x3 then k92 (x2) else L_XA_touchedBy_20 (s) (a) (fun x5 => (if x5 = x2 then some (x5) else L_XA_touchedBy_8 s a k92 f (x5) ((x3 + (1 : Int32))))) jF (x2) ((0 : Int32)))
set_option maxRecDepth 100000 in
set_option maxHeartbeats 4000000 in
theorem JL_XA_touchedBy_8 (l : Launch) (s : jS) (a : jB) (k92 : Int32 → Option (Int32)) (r : Int32) (hk92 : ∀ (x2 : Int32) (o1 : Option Value) (o3 : Option Value) (o4 : Option Value) (o5 : Option Value), k92 x2 = some r → K_XA_touchedBy l 92 [some (.ref 1), o1, some (.int x2), o3, o4, o5] [] (wX s a) (fun v w => v = some (.int r) ∧ w = wX s a)) : ∀ (f : Nat), ∀ (x2 : Int32) (x3 : Int32) (o1 : Option Value) (o4 : Option Value) (o5 : Option Value), L_XA_touchedBy_8 s a k92 f x2 x3 = some r → K_XA_touchedBy l 8 [some (.ref 1), o1, some (.int x2), some (.int x3), o4, o5] [] (wX s a) (fun v w => v = some (.int r) ∧ w = wX s a) := by
  intro f
  induction f with
  | zero =>
    intro x2 x3 o1 o4 o5 h
    cases h
  | succ f ih =>
    intro x2 x3 o1 o4 o5 h
    rw [L_XA_touchedBy_8] at h
    refine J_iload_n d_XA_touchedBy_8 rfl ?_
    refine J_bipush (v := (20 : Int32)) d_XA_touchedBy_9 (by decide) ?_
    refine J_icmp_ge (tgt := 92) d_XA_touchedBy_11 (by decide) (fun c => ?_) (fun c => ?_)
    · have h := j_ifp c h
      exact hk92 _ _ _ _ _ h
    · have h := j_ifn c h
      refine J_iload_n d_XA_touchedBy_14 rfl ?_
      refine J_istore d_XA_touchedBy_15 (by decide) ?_
      refine J_iconst (v := (0 : Int32)) d_XA_touchedBy_17 (by decide) ?_
      refine J_istore d_XA_touchedBy_18 (by decide) ?_
      refine JL_XA_touchedBy_20 l _ _ _ _ _ r (fun x5 o6 o7 h => ?_) jF _ _ _ h
      refine J_iload_n d_XA_touchedBy_78 rfl ?_
      refine J_iload d_XA_touchedBy_79 rfl ?_
      refine J_icmp_ne (tgt := 86) d_XA_touchedBy_81 (by decide) (fun c => ?_) (fun c => ?_)
      · have h := j_ifn c h
        refine J_iinc (v := (x3 + (1 : Int32))) d_XA_touchedBy_86 rfl (by first | rfl | decide) (by decide) ?_
        refine J_goto (tgt := 8) d_XA_touchedBy_89 (by decide) ?_
        exact ih _ _ _ _ _ h
      · have h := j_ifp c h
        refine J_iload_n d_XA_touchedBy_84 rfl ?_
        exact J_iret d_XA_touchedBy_85 rfl rfl (by cases h; exact ⟨rfl, rfl⟩)
def m_XA_touchedBy (s : jS) (a : jB) (p0 : Int32) : Option (Int32) := jb (m_XA_leftOf s a p0) (fun v2 => L_XA_touchedBy_8 (s) (a) (fun x8 => some (x8)) jF (v2) ((0 : Int32)))
set_option maxRecDepth 100000 in
set_option maxHeartbeats 4000000 in
theorem c_XA_touchedBy (l : Launch) (s : jS) (a : jB) (p0 : Int32) (r : Int32) (h : m_XA_touchedBy s a p0 = some r) : JMet l vwCl NsG (.code y_XA_touchedBy prog_2_method_10_code 6 (some .int) :: TsG) y_XA_touchedBy rm_XA_touchedBy [.ref 1, .int p0] (wX s a) (fun v w => v = some (.int r) ∧ w = wX s a) := by
  refine J_enter (by decide +kernel) rfl (Nat.le_of_ble_eq_true rfl) ?_
  unfold m_XA_touchedBy at h
  refine J_eq (ls' := [some (.ref 1), some (.int p0), none, none, none, none]) rfl rfl rfl rfl ?_
  refine J_aload_n d_XA_touchedBy_0 rfl ?_
  refine J_iload_n d_XA_touchedBy_1 rfl ?_
  obtain ⟨v2, e1, h⟩ := jb_some h
  refine J_cVi1 d_XA_touchedBy_2 (c_XA_leftOf l _ _ _ _ e1) (wX_at1 _ _) rfl ts_56 ts_good rfl rfl ts_41 ts_57 dy_XA_leftOf (by decide) (Nat.le_of_ble_eq_true rfl) ts_58 ts_59 ?_
  refine J_istore_n d_XA_touchedBy_5 (by decide) ?_
  refine J_iconst (v := (0 : Int32)) d_XA_touchedBy_6 (by decide) ?_
  refine J_istore_n d_XA_touchedBy_7 (by decide) ?_
  refine JL_XA_touchedBy_8 l _ _ _ r (fun x8 o9 o10 o11 o12 h => ?_) jF _ _ _ _ _ h
  refine J_iload_n d_XA_touchedBy_92 rfl ?_
  exact J_iret d_XA_touchedBy_93 rfl rfl (by cases h; exact ⟨rfl, rfl⟩)
abbrev rm_XK_forgetNo : Room := { frames := 2, cells := 0, slots := 0, locals := 41 }
abbrev K_XK_forgetNo (l : Launch) := JW l vwCl NsG TsG "ClassifySort$Knowledge" prog_3_method_13_code 3 none rm_XK_forgetNo
def L_XK_forgetNo_2 (c1 : Int32) (k36 : jS → jB → Option (jS × jB)) : Nat → jS → jB → Int32 → Option (jS × jB)
  | 0, _, _, _ => none
  | f + 1, s, a, x2 => (if (20 : Int32) ≤ x2 then k36 (s) (a) else jb (m_X_has c1 x2) (fun v2 => (if v2 = (0 : Int32) then L_XK_forgetNo_2 c1 k36 f (s) (a) ((x2 + (1 : Int32))) else jg (jin x2 21) (jg (jin x2 21) (L_XK_forgetNo_2 c1 k36 f (s) ((va_up (va_up a 9 (upd (a 9) (x2).toNatClampNeg (0 : Int32))) 10 (upd ((va_up a 9 (upd (a 9) (x2).toNatClampNeg (0 : Int32))) 10) (x2).toNatClampNeg (0 : Int32)))) ((x2 + (1 : Int32))))))))
set_option maxRecDepth 100000 in
set_option maxHeartbeats 4000000 in
theorem JL_XK_forgetNo_2 (l : Launch) (c1 : Int32) (k36 : jS → jB → Option (jS × jB)) (r : jS × jB) (hk36 : ∀ (s : jS) (a : jB) (o2 : Option Value), k36 s a = some r → K_XK_forgetNo l 36 [some (.ref 6), some (.int c1), o2] [] (wX s a) (fun v w => v = none ∧ w = wX r.1 r.2)) : ∀ (f : Nat), ∀ (s : jS) (a : jB) (x2 : Int32), L_XK_forgetNo_2 c1 k36 f s a x2 = some r → K_XK_forgetNo l 2 [some (.ref 6), some (.int c1), some (.int x2)] [] (wX s a) (fun v w => v = none ∧ w = wX r.1 r.2) := by
  intro f
  induction f with
  | zero =>
    intro s a x2 h
    cases h
  | succ f ih =>
    intro s a x2 h
    rw [L_XK_forgetNo_2] at h
    refine J_iload_n d_XK_forgetNo_2 rfl ?_
    refine J_bipush (v := (20 : Int32)) d_XK_forgetNo_3 (by decide) ?_
    refine J_icmp_ge (tgt := 36) d_XK_forgetNo_5 (by decide) (fun c => ?_) (fun c => ?_)
    · have h := j_ifp c h
      exact hk36 _ _ _ h
    · have h := j_ifn c h
      refine J_iload_n d_XK_forgetNo_8 rfl ?_
      refine J_iload_n d_XK_forgetNo_9 rfl ?_
      obtain ⟨v2, e1, h⟩ := jb_some h
      refine J_cSi2N d_XK_forgetNo_10 (c_X_has l _ _ _ _ e1) ts_8 ts_good rfl rfl ts_4 ns_1 dy_X_has (by decide) (Nat.le_of_ble_eq_true rfl) ts_9 ?_
      refine J_if_eq (tgt := 30) d_XK_forgetNo_13 (by decide) (fun c => ?_) (fun c => ?_)
      · have h := j_ifp c h
        refine J_iinc (v := (x2 + (1 : Int32))) d_XK_forgetNo_30 rfl (by first | rfl | decide) (by decide) ?_
        refine J_goto (tgt := 2) d_XK_forgetNo_33 (by decide) ?_
        exact ih _ _ _ h
      · have h := j_ifn c h
        refine J_aload_n d_XK_forgetNo_16 rfl ?_
        refine J_get (j := 2) (v := .ref 9) d_XK_forgetNo_17 (wX_at6 _ _) rfl in_3 (by decide) ts_15 rfl ?_
        refine J_iload_n d_XK_forgetNo_20 rfl ?_
        refine J_iconst (v := (0 : Int32)) d_XK_forgetNo_21 (by decide) ?_
        obtain ⟨g, h⟩ := jg_some h
        refine J_iast (f := (a 9)) d_XK_forgetNo_22 (wX_at9 _ _) (jin_in g) ?_
        refine J_eq (ws' := wX s (va_up a 9 (upd (a 9) (x2).toNatClampNeg (0 : Int32)))) rfl rfl rfl (wX_ast9 _ _ _) ?_
        refine J_aload_n d_XK_forgetNo_23 rfl ?_
        refine J_get (j := 3) (v := .ref 10) d_XK_forgetNo_24 (wX_at6 _ _) rfl in_3 (by decide) ts_19 rfl ?_
        refine J_iload_n d_XK_forgetNo_27 rfl ?_
        refine J_iconst (v := (0 : Int32)) d_XK_forgetNo_28 (by decide) ?_
        obtain ⟨g, h⟩ := jg_some h
        refine J_iast (f := ((va_up a 9 (upd (a 9) (x2).toNatClampNeg (0 : Int32))) 10)) d_XK_forgetNo_29 (wX_at10 _ _) (jin_in g) ?_
        refine J_eq (ws' := wX s (va_up (va_up a 9 (upd (a 9) (x2).toNatClampNeg (0 : Int32))) 10 (upd ((va_up a 9 (upd (a 9) (x2).toNatClampNeg (0 : Int32))) 10) (x2).toNatClampNeg (0 : Int32)))) rfl rfl rfl (wX_ast10 _ _ _) ?_
        refine J_iinc (v := (x2 + (1 : Int32))) d_XK_forgetNo_30 rfl (by first | rfl | decide) (by decide) ?_
        refine J_goto (tgt := 2) d_XK_forgetNo_33 (by decide) ?_
        exact ih _ _ _ h
def m_XK_forgetNo (s : jS) (a : jB) (p0 : Int32) : Option (jS × jB) := L_XK_forgetNo_2 (p0) (fun s3 a4 => some (s3, a4)) jF (s) (a) ((0 : Int32))
set_option maxRecDepth 100000 in
set_option maxHeartbeats 4000000 in
theorem c_XK_forgetNo (l : Launch) (s : jS) (a : jB) (p0 : Int32) (r : jS × jB) (h : m_XK_forgetNo s a p0 = some r) : JMet l vwCl NsG (.code y_XK_forgetNo prog_3_method_13_code 3 none :: TsG) y_XK_forgetNo rm_XK_forgetNo [.ref 6, .int p0] (wX s a) (fun v w => v = none ∧ w = wX r.1 r.2) := by
  refine J_enter (by decide +kernel) rfl (Nat.le_of_ble_eq_true rfl) ?_
  unfold m_XK_forgetNo at h
  refine J_eq (ls' := [some (.ref 6), some (.int p0), none]) rfl rfl rfl rfl ?_
  refine J_iconst (v := (0 : Int32)) d_XK_forgetNo_0 (by decide) ?_
  refine J_istore_n d_XK_forgetNo_1 (by decide) ?_
  refine JL_XK_forgetNo_2 l _ _ r (fun s3 a4 o5 h => ?_) jF _ _ _ h
  exact J_vret d_XK_forgetNo_36 rfl (by cases h; exact ⟨rfl, rfl⟩)
abbrev rm_JI_bitCount : Room := { frames := 0, cells := 0, slots := 0, locals := 0 }
abbrev K_JI_bitCount (l : Launch) := JW l vwCl NsG TsG "java/lang/Integer" prog_8_method_49_code 1 (some .int) rm_JI_bitCount
def m_JI_bitCount (p0 : Int32) : Option (Int32) := jb (some (p0 - ((((p0).toUInt32 >>> (((1 : Int32)).toUInt32 &&& Int32.toUInt32 31)).toInt32) &&& (1431655765 : Int32)))) (fun y1 => jb (some ((y1 &&& (858993459 : Int32)) + ((((y1).toUInt32 >>> (((2 : Int32)).toUInt32 &&& Int32.toUInt32 31)).toInt32) &&& (858993459 : Int32)))) (fun y2 => jb (some ((y2 + (((y2).toUInt32 >>> (((4 : Int32)).toUInt32 &&& Int32.toUInt32 31)).toInt32)) &&& (252645135 : Int32))) (fun y3 => jb (some (y3 + (((y3).toUInt32 >>> (((8 : Int32)).toUInt32 &&& Int32.toUInt32 31)).toInt32))) (fun y4 => jb (some (y4 + (((y4).toUInt32 >>> (((16 : Int32)).toUInt32 &&& Int32.toUInt32 31)).toInt32))) (fun y5 => some ((y5 &&& (63 : Int32))))))))
set_option maxRecDepth 100000 in
set_option maxHeartbeats 4000000 in
theorem c_JI_bitCount (l : Launch) (ws : jW) (p0 : Int32) (r : Int32) (h : m_JI_bitCount p0 = some r) : JMet l vwCl NsG (.code y_JI_bitCount prog_8_method_49_code 1 (some .int) :: TsG) y_JI_bitCount rm_JI_bitCount [.int p0] ws (fun v w => v = some (.int r) ∧ w = ws) := by
  refine J_enter (by decide +kernel) rfl (Nat.le_of_ble_eq_true rfl) ?_
  unfold m_JI_bitCount at h
  refine J_eq (ls' := [some (.int p0)]) rfl rfl rfl rfl ?_
  refine J_iload_n d_JI_bitCount_0 rfl ?_
  refine J_iload_n d_JI_bitCount_1 rfl ?_
  refine J_iconst (v := (1 : Int32)) d_JI_bitCount_2 (by decide) ?_
  refine J_iushr d_JI_bitCount_3 ?_
  refine J_ldcw (v := (1431655765 : Int32)) d_JI_bitCount_4 ts_69 ?_
  refine J_iand d_JI_bitCount_7 ?_
  refine J_isub d_JI_bitCount_8 ?_
  obtain ⟨y1, qy1, h⟩ := jb_some h
  refine J_topi (Option.some.inj qy1) ?_
  refine J_istore_n d_JI_bitCount_9 (by decide) ?_
  refine J_iload_n d_JI_bitCount_10 rfl ?_
  refine J_ldcw (v := (858993459 : Int32)) d_JI_bitCount_11 ts_70 ?_
  refine J_iand d_JI_bitCount_14 ?_
  refine J_iload_n d_JI_bitCount_15 rfl ?_
  refine J_iconst (v := (2 : Int32)) d_JI_bitCount_16 (by decide) ?_
  refine J_iushr d_JI_bitCount_17 ?_
  refine J_ldcw (v := (858993459 : Int32)) d_JI_bitCount_18 ts_70 ?_
  refine J_iand d_JI_bitCount_21 ?_
  refine J_iadd d_JI_bitCount_22 ?_
  obtain ⟨y2, qy2, h⟩ := jb_some h
  refine J_topi (Option.some.inj qy2) ?_
  refine J_istore_n d_JI_bitCount_23 (by decide) ?_
  refine J_iload_n d_JI_bitCount_24 rfl ?_
  refine J_iload_n d_JI_bitCount_25 rfl ?_
  refine J_iconst (v := (4 : Int32)) d_JI_bitCount_26 (by decide) ?_
  refine J_iushr d_JI_bitCount_27 ?_
  refine J_iadd d_JI_bitCount_28 ?_
  refine J_ldcw (v := (252645135 : Int32)) d_JI_bitCount_29 ts_71 ?_
  refine J_iand d_JI_bitCount_32 ?_
  obtain ⟨y3, qy3, h⟩ := jb_some h
  refine J_topi (Option.some.inj qy3) ?_
  refine J_istore_n d_JI_bitCount_33 (by decide) ?_
  refine J_iload_n d_JI_bitCount_34 rfl ?_
  refine J_iload_n d_JI_bitCount_35 rfl ?_
  refine J_bipush (v := (8 : Int32)) d_JI_bitCount_36 (by decide) ?_
  refine J_iushr d_JI_bitCount_38 ?_
  refine J_iadd d_JI_bitCount_39 ?_
  obtain ⟨y4, qy4, h⟩ := jb_some h
  refine J_topi (Option.some.inj qy4) ?_
  refine J_istore_n d_JI_bitCount_40 (by decide) ?_
  refine J_iload_n d_JI_bitCount_41 rfl ?_
  refine J_iload_n d_JI_bitCount_42 rfl ?_
  refine J_bipush (v := (16 : Int32)) d_JI_bitCount_43 (by decide) ?_
  refine J_iushr d_JI_bitCount_45 ?_
  refine J_iadd d_JI_bitCount_46 ?_
  obtain ⟨y5, qy5, h⟩ := jb_some h
  refine J_topi (Option.some.inj qy5) ?_
  refine J_istore_n d_JI_bitCount_47 (by decide) ?_
  refine J_iload_n d_JI_bitCount_48 rfl ?_
  refine J_bipush (v := (63 : Int32)) d_JI_bitCount_49 (by decide) ?_
  refine J_iand d_JI_bitCount_51 ?_
  exact J_iret d_JI_bitCount_52 rfl rfl (by cases h; exact ⟨rfl, rfl⟩)
abbrev rm_JI_numberOfTrailingZeros : Room := { frames := 0, cells := 0, slots := 0, locals := 0 }
abbrev K_JI_numberOfTrailingZeros (l : Launch) := JW l vwCl NsG TsG "java/lang/Integer" prog_8_method_48_code 2 (some .int) rm_JI_numberOfTrailingZeros
def m_JI_numberOfTrailingZeros (p0 : Int32) : Option (Int32) := jb (some ((p0 ^^^ (-1 : Int32)) &&& (p0 - (1 : Int32)))) (fun y1 => (if (0 : Int32) < y1 then (if y1 ≤ (65536 : Int32) then (if y1 ≤ (256 : Int32) then (if y1 ≤ (16 : Int32) then (if y1 ≤ (4 : Int32) then some (((1 : Int32) + (((y1).toUInt32 >>> (((1 : Int32)).toUInt32 &&& Int32.toUInt32 31)).toInt32))) else jb (some (((y1).toUInt32 >>> (((2 : Int32)).toUInt32 &&& Int32.toUInt32 31)).toInt32)) (fun y2 => some ((((1 : Int32) + (2 : Int32)) + (((y2).toUInt32 >>> (((1 : Int32)).toUInt32 &&& Int32.toUInt32 31)).toInt32))))) else jb (some (((y1).toUInt32 >>> (((4 : Int32)).toUInt32 &&& Int32.toUInt32 31)).toInt32)) (fun y3 => (if y3 ≤ (4 : Int32) then some ((((1 : Int32) + (4 : Int32)) + (((y3).toUInt32 >>> (((1 : Int32)).toUInt32 &&& Int32.toUInt32 31)).toInt32))) else jb (some (((y3).toUInt32 >>> (((2 : Int32)).toUInt32 &&& Int32.toUInt32 31)).toInt32)) (fun y4 => some (((((1 : Int32) + (4 : Int32)) + (2 : Int32)) + (((y4).toUInt32 >>> (((1 : Int32)).toUInt32 &&& Int32.toUInt32 31)).toInt32))))))) else jb (some (((y1).toUInt32 >>> (((8 : Int32)).toUInt32 &&& Int32.toUInt32 31)).toInt32)) (fun y5 => (if y5 ≤ (16 : Int32) then (if y5 ≤ (4 : Int32) then some ((((1 : Int32) + (8 : Int32)) + (((y5).toUInt32 >>> (((1 : Int32)).toUInt32 &&& Int32.toUInt32 31)).toInt32))) else jb (some (((y5).toUInt32 >>> (((2 : Int32)).toUInt32 &&& Int32.toUInt32 31)).toInt32)) (fun y6 => some (((((1 : Int32) + (8 : Int32)) + (2 : Int32)) + (((y6).toUInt32 >>> (((1 : Int32)).toUInt32 &&& Int32.toUInt32 31)).toInt32))))) else jb (some (((y5).toUInt32 >>> (((4 : Int32)).toUInt32 &&& Int32.toUInt32 31)).toInt32)) (fun y7 => (if y7 ≤ (4 : Int32) then some (((((1 : Int32) + (8 : Int32)) + (4 : Int32)) + (((y7).toUInt32 >>> (((1 : Int32)).toUInt32 &&& Int32.toUInt32 31)).toInt32))) else jb (some (((y7).toUInt32 >>> (((2 : Int32)).toUInt32 &&& Int32.toUInt32 31)).toInt32)) (fun y8 => some ((((((1 : Int32) + (8 : Int32)) + (4 : Int32)) + (2 : Int32)) + (((y8).toUInt32 >>> (((1 : Int32)).toUInt32 &&& Int32.toUInt32 31)).toInt32))))))))) else jb (some (((y1).toUInt32 >>> (((16 : Int32)).toUInt32 &&& Int32.toUInt32 31)).toInt32)) (fun y9 => (if y9 ≤ (256 : Int32) then (if y9 ≤ (16 : Int32) then (if y9 ≤ (4 : Int32) then some ((((1 : Int32) + (16 : Int32)) + (((y9).toUInt32 >>> (((1 : Int32)).toUInt32 &&& Int32.toUInt32 31)).toInt32))) else jb (some (((y9).toUInt32 >>> (((2 : Int32)).toUInt32 &&& Int32.toUInt32 31)).toInt32)) (fun y10 => some (((((1 : Int32) + (16 : Int32)) + (2 : Int32)) + (((y10).toUInt32 >>> (((1 : Int32)).toUInt32 &&& Int32.toUInt32 31)).toInt32))))) else jb (some (((y9).toUInt32 >>> (((4 : Int32)).toUInt32 &&& Int32.toUInt32 31)).toInt32)) (fun y11 => (if y11 ≤ (4 : Int32) then some (((((1 : Int32) + (16 : Int32)) + (4 : Int32)) + (((y11).toUInt32 >>> (((1 : Int32)).toUInt32 &&& Int32.toUInt32 31)).toInt32))) else jb (some (((y11).toUInt32 >>> (((2 : Int32)).toUInt32 &&& Int32.toUInt32 31)).toInt32)) (fun y12 => some ((((((1 : Int32) + (16 : Int32)) + (4 : Int32)) + (2 : Int32)) + (((y12).toUInt32 >>> (((1 : Int32)).toUInt32 &&& Int32.toUInt32 31)).toInt32))))))) else jb (some (((y9).toUInt32 >>> (((8 : Int32)).toUInt32 &&& Int32.toUInt32 31)).toInt32)) (fun y13 => (if y13 ≤ (16 : Int32) then (if y13 ≤ (4 : Int32) then some (((((1 : Int32) + (16 : Int32)) + (8 : Int32)) + (((y13).toUInt32 >>> (((1 : Int32)).toUInt32 &&& Int32.toUInt32 31)).toInt32))) else jb (some (((y13).toUInt32 >>> (((2 : Int32)).toUInt32 &&& Int32.toUInt32 31)).toInt32)) (fun y14 => some ((((((1 : Int32) + (16 : Int32)) + (8 : Int32)) + (2 : Int32)) + (((y14).toUInt32 >>> (((1 : Int32)).toUInt32 &&& Int32.toUInt32 31)).toInt32))))) else jb (some (((y13).toUInt32 >>> (((4 : Int32)).toUInt32 &&& Int32.toUInt32 31)).toInt32)) (fun y15 => (if y15 ≤ (4 : Int32) then some ((((((1 : Int32) + (16 : Int32)) + (8 : Int32)) + (4 : Int32)) + (((y15).toUInt32 >>> (((1 : Int32)).toUInt32 &&& Int32.toUInt32 31)).toInt32))) else jb (some (((y15).toUInt32 >>> (((2 : Int32)).toUInt32 &&& Int32.toUInt32 31)).toInt32)) (fun y16 => some (((((((1 : Int32) + (16 : Int32)) + (8 : Int32)) + (4 : Int32)) + (2 : Int32)) + (((y16).toUInt32 >>> (((1 : Int32)).toUInt32 &&& Int32.toUInt32 31)).toInt32))))))))))) else some ((y1 &&& (32 : Int32)))))
set_option maxRecDepth 100000 in
set_option maxHeartbeats 4000000 in
theorem c_JI_numberOfTrailingZeros (l : Launch) (ws : jW) (p0 : Int32) (r : Int32) (h : m_JI_numberOfTrailingZeros p0 = some r) : JMet l vwCl NsG (.code y_JI_numberOfTrailingZeros prog_8_method_48_code 2 (some .int) :: TsG) y_JI_numberOfTrailingZeros rm_JI_numberOfTrailingZeros [.int p0] ws (fun v w => v = some (.int r) ∧ w = ws) := by
  refine J_enter (by decide +kernel) rfl (Nat.le_of_ble_eq_true rfl) ?_
  unfold m_JI_numberOfTrailingZeros at h
  refine J_eq (ls' := [some (.int p0), none]) rfl rfl rfl rfl ?_
  refine J_iload_n d_JI_numberOfTrailingZeros_0 rfl ?_
  refine J_iconst (v := (-1 : Int32)) d_JI_numberOfTrailingZeros_1 (by decide) ?_
  refine J_ixor d_JI_numberOfTrailingZeros_2 ?_
  refine J_iload_n d_JI_numberOfTrailingZeros_3 rfl ?_
  refine J_iconst (v := (1 : Int32)) d_JI_numberOfTrailingZeros_4 (by decide) ?_
  refine J_isub d_JI_numberOfTrailingZeros_5 ?_
  refine J_iand d_JI_numberOfTrailingZeros_6 ?_
  obtain ⟨y1, qy1, h⟩ := jb_some h
  refine J_topi (Option.some.inj qy1) ?_
  refine J_istore_n d_JI_numberOfTrailingZeros_7 (by decide) ?_
  refine J_iload_n d_JI_numberOfTrailingZeros_8 rfl ?_
  refine J_if_gt (tgt := 17) d_JI_numberOfTrailingZeros_9 (by decide) (fun c => ?_) (fun c => ?_)
  · have h := j_ifp c h
    refine J_iconst (v := (1 : Int32)) d_JI_numberOfTrailingZeros_17 (by decide) ?_
    refine J_istore_n d_JI_numberOfTrailingZeros_18 (by decide) ?_
    refine J_iload_n d_JI_numberOfTrailingZeros_19 rfl ?_
    refine J_ldcw (v := (65536 : Int32)) d_JI_numberOfTrailingZeros_20 ts_76 ?_
    refine J_icmp_le (tgt := 34) d_JI_numberOfTrailingZeros_23 (by decide) (fun c => ?_) (fun c => ?_)
    · have h := j_ifp c h
      refine J_iload_n d_JI_numberOfTrailingZeros_34 rfl ?_
      refine J_sipush (v := (256 : Int32)) d_JI_numberOfTrailingZeros_35 (by decide) ?_
      refine J_icmp_le (tgt := 49) d_JI_numberOfTrailingZeros_38 (by decide) (fun c => ?_) (fun c => ?_)
      · have h := j_ifp c h
        refine J_iload_n d_JI_numberOfTrailingZeros_49 rfl ?_
        refine J_bipush (v := (16 : Int32)) d_JI_numberOfTrailingZeros_50 (by decide) ?_
        refine J_icmp_le (tgt := 62) d_JI_numberOfTrailingZeros_52 (by decide) (fun c => ?_) (fun c => ?_)
        · have h := j_ifp c h
          refine J_iload_n d_JI_numberOfTrailingZeros_62 rfl ?_
          refine J_iconst (v := (4 : Int32)) d_JI_numberOfTrailingZeros_63 (by decide) ?_
          refine J_icmp_le (tgt := 74) d_JI_numberOfTrailingZeros_64 (by decide) (fun c => ?_) (fun c => ?_)
          · have h := j_ifp c h
            refine J_iload_n d_JI_numberOfTrailingZeros_74 rfl ?_
            refine J_iload_n d_JI_numberOfTrailingZeros_75 rfl ?_
            refine J_iconst (v := (1 : Int32)) d_JI_numberOfTrailingZeros_76 (by decide) ?_
            refine J_iushr d_JI_numberOfTrailingZeros_77 ?_
            refine J_iadd d_JI_numberOfTrailingZeros_78 ?_
            exact J_iret d_JI_numberOfTrailingZeros_79 rfl rfl (by cases h; exact ⟨rfl, rfl⟩)
          · have h := j_ifn c h
            refine J_iinc (v := ((1 : Int32) + (2 : Int32))) d_JI_numberOfTrailingZeros_67 rfl (by first | rfl | decide) (by decide) ?_
            refine J_iload_n d_JI_numberOfTrailingZeros_70 rfl ?_
            refine J_iconst (v := (2 : Int32)) d_JI_numberOfTrailingZeros_71 (by decide) ?_
            refine J_iushr d_JI_numberOfTrailingZeros_72 ?_
            obtain ⟨y2, qy2, h⟩ := jb_some h
            refine J_topi (Option.some.inj qy2) ?_
            refine J_istore_n d_JI_numberOfTrailingZeros_73 (by decide) ?_
            refine J_iload_n d_JI_numberOfTrailingZeros_74 rfl ?_
            refine J_iload_n d_JI_numberOfTrailingZeros_75 rfl ?_
            refine J_iconst (v := (1 : Int32)) d_JI_numberOfTrailingZeros_76 (by decide) ?_
            refine J_iushr d_JI_numberOfTrailingZeros_77 ?_
            refine J_iadd d_JI_numberOfTrailingZeros_78 ?_
            exact J_iret d_JI_numberOfTrailingZeros_79 rfl rfl (by cases h; exact ⟨rfl, rfl⟩)
        · have h := j_ifn c h
          refine J_iinc (v := ((1 : Int32) + (4 : Int32))) d_JI_numberOfTrailingZeros_55 rfl (by first | rfl | decide) (by decide) ?_
          refine J_iload_n d_JI_numberOfTrailingZeros_58 rfl ?_
          refine J_iconst (v := (4 : Int32)) d_JI_numberOfTrailingZeros_59 (by decide) ?_
          refine J_iushr d_JI_numberOfTrailingZeros_60 ?_
          obtain ⟨y3, qy3, h⟩ := jb_some h
          refine J_topi (Option.some.inj qy3) ?_
          refine J_istore_n d_JI_numberOfTrailingZeros_61 (by decide) ?_
          refine J_iload_n d_JI_numberOfTrailingZeros_62 rfl ?_
          refine J_iconst (v := (4 : Int32)) d_JI_numberOfTrailingZeros_63 (by decide) ?_
          refine J_icmp_le (tgt := 74) d_JI_numberOfTrailingZeros_64 (by decide) (fun c => ?_) (fun c => ?_)
          · have h := j_ifp c h
            refine J_iload_n d_JI_numberOfTrailingZeros_74 rfl ?_
            refine J_iload_n d_JI_numberOfTrailingZeros_75 rfl ?_
            refine J_iconst (v := (1 : Int32)) d_JI_numberOfTrailingZeros_76 (by decide) ?_
            refine J_iushr d_JI_numberOfTrailingZeros_77 ?_
            refine J_iadd d_JI_numberOfTrailingZeros_78 ?_
            exact J_iret d_JI_numberOfTrailingZeros_79 rfl rfl (by cases h; exact ⟨rfl, rfl⟩)
          · have h := j_ifn c h
            refine J_iinc (v := (((1 : Int32) + (4 : Int32)) + (2 : Int32))) d_JI_numberOfTrailingZeros_67 rfl (by first | rfl | decide) (by decide) ?_
            refine J_iload_n d_JI_numberOfTrailingZeros_70 rfl ?_
            refine J_iconst (v := (2 : Int32)) d_JI_numberOfTrailingZeros_71 (by decide) ?_
            refine J_iushr d_JI_numberOfTrailingZeros_72 ?_
            obtain ⟨y4, qy4, h⟩ := jb_some h
            refine J_topi (Option.some.inj qy4) ?_
            refine J_istore_n d_JI_numberOfTrailingZeros_73 (by decide) ?_
            refine J_iload_n d_JI_numberOfTrailingZeros_74 rfl ?_
            refine J_iload_n d_JI_numberOfTrailingZeros_75 rfl ?_
            refine J_iconst (v := (1 : Int32)) d_JI_numberOfTrailingZeros_76 (by decide) ?_
            refine J_iushr d_JI_numberOfTrailingZeros_77 ?_
            refine J_iadd d_JI_numberOfTrailingZeros_78 ?_
            exact J_iret d_JI_numberOfTrailingZeros_79 rfl rfl (by cases h; exact ⟨rfl, rfl⟩)
      · have h := j_ifn c h
        refine J_iinc (v := ((1 : Int32) + (8 : Int32))) d_JI_numberOfTrailingZeros_41 rfl (by first | rfl | decide) (by decide) ?_
        refine J_iload_n d_JI_numberOfTrailingZeros_44 rfl ?_
        refine J_bipush (v := (8 : Int32)) d_JI_numberOfTrailingZeros_45 (by decide) ?_
        refine J_iushr d_JI_numberOfTrailingZeros_47 ?_
        obtain ⟨y5, qy5, h⟩ := jb_some h
        refine J_topi (Option.some.inj qy5) ?_
        refine J_istore_n d_JI_numberOfTrailingZeros_48 (by decide) ?_
        refine J_iload_n d_JI_numberOfTrailingZeros_49 rfl ?_
        refine J_bipush (v := (16 : Int32)) d_JI_numberOfTrailingZeros_50 (by decide) ?_
        refine J_icmp_le (tgt := 62) d_JI_numberOfTrailingZeros_52 (by decide) (fun c => ?_) (fun c => ?_)
        · have h := j_ifp c h
          refine J_iload_n d_JI_numberOfTrailingZeros_62 rfl ?_
          refine J_iconst (v := (4 : Int32)) d_JI_numberOfTrailingZeros_63 (by decide) ?_
          refine J_icmp_le (tgt := 74) d_JI_numberOfTrailingZeros_64 (by decide) (fun c => ?_) (fun c => ?_)
          · have h := j_ifp c h
            refine J_iload_n d_JI_numberOfTrailingZeros_74 rfl ?_
            refine J_iload_n d_JI_numberOfTrailingZeros_75 rfl ?_
            refine J_iconst (v := (1 : Int32)) d_JI_numberOfTrailingZeros_76 (by decide) ?_
            refine J_iushr d_JI_numberOfTrailingZeros_77 ?_
            refine J_iadd d_JI_numberOfTrailingZeros_78 ?_
            exact J_iret d_JI_numberOfTrailingZeros_79 rfl rfl (by cases h; exact ⟨rfl, rfl⟩)
          · have h := j_ifn c h
            refine J_iinc (v := (((1 : Int32) + (8 : Int32)) + (2 : Int32))) d_JI_numberOfTrailingZeros_67 rfl (by first | rfl | decide) (by decide) ?_
            refine J_iload_n d_JI_numberOfTrailingZeros_70 rfl ?_
            refine J_iconst (v := (2 : Int32)) d_JI_numberOfTrailingZeros_71 (by decide) ?_
            refine J_iushr d_JI_numberOfTrailingZeros_72 ?_
            obtain ⟨y6, qy6, h⟩ := jb_some h
            refine J_topi (Option.some.inj qy6) ?_
            refine J_istore_n d_JI_numberOfTrailingZeros_73 (by decide) ?_
            refine J_iload_n d_JI_numberOfTrailingZeros_74 rfl ?_
            refine J_iload_n d_JI_numberOfTrailingZeros_75 rfl ?_
            refine J_iconst (v := (1 : Int32)) d_JI_numberOfTrailingZeros_76 (by decide) ?_
            refine J_iushr d_JI_numberOfTrailingZeros_77 ?_
            refine J_iadd d_JI_numberOfTrailingZeros_78 ?_
            exact J_iret d_JI_numberOfTrailingZeros_79 rfl rfl (by cases h; exact ⟨rfl, rfl⟩)
        · have h := j_ifn c h
          refine J_iinc (v := (((1 : Int32) + (8 : Int32)) + (4 : Int32))) d_JI_numberOfTrailingZeros_55 rfl (by first | rfl | decide) (by decide) ?_
          refine J_iload_n d_JI_numberOfTrailingZeros_58 rfl ?_
          refine J_iconst (v := (4 : Int32)) d_JI_numberOfTrailingZeros_59 (by decide) ?_
          refine J_iushr d_JI_numberOfTrailingZeros_60 ?_
          obtain ⟨y7, qy7, h⟩ := jb_some h
          refine J_topi (Option.some.inj qy7) ?_
          refine J_istore_n d_JI_numberOfTrailingZeros_61 (by decide) ?_
          refine J_iload_n d_JI_numberOfTrailingZeros_62 rfl ?_
          refine J_iconst (v := (4 : Int32)) d_JI_numberOfTrailingZeros_63 (by decide) ?_
          refine J_icmp_le (tgt := 74) d_JI_numberOfTrailingZeros_64 (by decide) (fun c => ?_) (fun c => ?_)
          · have h := j_ifp c h
            refine J_iload_n d_JI_numberOfTrailingZeros_74 rfl ?_
            refine J_iload_n d_JI_numberOfTrailingZeros_75 rfl ?_
            refine J_iconst (v := (1 : Int32)) d_JI_numberOfTrailingZeros_76 (by decide) ?_
            refine J_iushr d_JI_numberOfTrailingZeros_77 ?_
            refine J_iadd d_JI_numberOfTrailingZeros_78 ?_
            exact J_iret d_JI_numberOfTrailingZeros_79 rfl rfl (by cases h; exact ⟨rfl, rfl⟩)
          · have h := j_ifn c h
            refine J_iinc (v := ((((1 : Int32) + (8 : Int32)) + (4 : Int32)) + (2 : Int32))) d_JI_numberOfTrailingZeros_67 rfl (by first | rfl | decide) (by decide) ?_
            refine J_iload_n d_JI_numberOfTrailingZeros_70 rfl ?_
            refine J_iconst (v := (2 : Int32)) d_JI_numberOfTrailingZeros_71 (by decide) ?_
            refine J_iushr d_JI_numberOfTrailingZeros_72 ?_
            obtain ⟨y8, qy8, h⟩ := jb_some h
            refine J_topi (Option.some.inj qy8) ?_
            refine J_istore_n d_JI_numberOfTrailingZeros_73 (by decide) ?_
            refine J_iload_n d_JI_numberOfTrailingZeros_74 rfl ?_
            refine J_iload_n d_JI_numberOfTrailingZeros_75 rfl ?_
            refine J_iconst (v := (1 : Int32)) d_JI_numberOfTrailingZeros_76 (by decide) ?_
            refine J_iushr d_JI_numberOfTrailingZeros_77 ?_
            refine J_iadd d_JI_numberOfTrailingZeros_78 ?_
            exact J_iret d_JI_numberOfTrailingZeros_79 rfl rfl (by cases h; exact ⟨rfl, rfl⟩)
    · have h := j_ifn c h
      refine J_iinc (v := ((1 : Int32) + (16 : Int32))) d_JI_numberOfTrailingZeros_26 rfl (by first | rfl | decide) (by decide) ?_
      refine J_iload_n d_JI_numberOfTrailingZeros_29 rfl ?_
      refine J_bipush (v := (16 : Int32)) d_JI_numberOfTrailingZeros_30 (by decide) ?_
      refine J_iushr d_JI_numberOfTrailingZeros_32 ?_
      obtain ⟨y9, qy9, h⟩ := jb_some h
      refine J_topi (Option.some.inj qy9) ?_
      refine J_istore_n d_JI_numberOfTrailingZeros_33 (by decide) ?_
      refine J_iload_n d_JI_numberOfTrailingZeros_34 rfl ?_
      refine J_sipush (v := (256 : Int32)) d_JI_numberOfTrailingZeros_35 (by decide) ?_
      refine J_icmp_le (tgt := 49) d_JI_numberOfTrailingZeros_38 (by decide) (fun c => ?_) (fun c => ?_)
      · have h := j_ifp c h
        refine J_iload_n d_JI_numberOfTrailingZeros_49 rfl ?_
        refine J_bipush (v := (16 : Int32)) d_JI_numberOfTrailingZeros_50 (by decide) ?_
        refine J_icmp_le (tgt := 62) d_JI_numberOfTrailingZeros_52 (by decide) (fun c => ?_) (fun c => ?_)
        · have h := j_ifp c h
          refine J_iload_n d_JI_numberOfTrailingZeros_62 rfl ?_
          refine J_iconst (v := (4 : Int32)) d_JI_numberOfTrailingZeros_63 (by decide) ?_
          refine J_icmp_le (tgt := 74) d_JI_numberOfTrailingZeros_64 (by decide) (fun c => ?_) (fun c => ?_)
          · have h := j_ifp c h
            refine J_iload_n d_JI_numberOfTrailingZeros_74 rfl ?_
            refine J_iload_n d_JI_numberOfTrailingZeros_75 rfl ?_
            refine J_iconst (v := (1 : Int32)) d_JI_numberOfTrailingZeros_76 (by decide) ?_
            refine J_iushr d_JI_numberOfTrailingZeros_77 ?_
            refine J_iadd d_JI_numberOfTrailingZeros_78 ?_
            exact J_iret d_JI_numberOfTrailingZeros_79 rfl rfl (by cases h; exact ⟨rfl, rfl⟩)
          · have h := j_ifn c h
            refine J_iinc (v := (((1 : Int32) + (16 : Int32)) + (2 : Int32))) d_JI_numberOfTrailingZeros_67 rfl (by first | rfl | decide) (by decide) ?_
            refine J_iload_n d_JI_numberOfTrailingZeros_70 rfl ?_
            refine J_iconst (v := (2 : Int32)) d_JI_numberOfTrailingZeros_71 (by decide) ?_
            refine J_iushr d_JI_numberOfTrailingZeros_72 ?_
            obtain ⟨y10, qy10, h⟩ := jb_some h
            refine J_topi (Option.some.inj qy10) ?_
            refine J_istore_n d_JI_numberOfTrailingZeros_73 (by decide) ?_
            refine J_iload_n d_JI_numberOfTrailingZeros_74 rfl ?_
            refine J_iload_n d_JI_numberOfTrailingZeros_75 rfl ?_
            refine J_iconst (v := (1 : Int32)) d_JI_numberOfTrailingZeros_76 (by decide) ?_
            refine J_iushr d_JI_numberOfTrailingZeros_77 ?_
            refine J_iadd d_JI_numberOfTrailingZeros_78 ?_
            exact J_iret d_JI_numberOfTrailingZeros_79 rfl rfl (by cases h; exact ⟨rfl, rfl⟩)
        · have h := j_ifn c h
          refine J_iinc (v := (((1 : Int32) + (16 : Int32)) + (4 : Int32))) d_JI_numberOfTrailingZeros_55 rfl (by first | rfl | decide) (by decide) ?_
          refine J_iload_n d_JI_numberOfTrailingZeros_58 rfl ?_
          refine J_iconst (v := (4 : Int32)) d_JI_numberOfTrailingZeros_59 (by decide) ?_
          refine J_iushr d_JI_numberOfTrailingZeros_60 ?_
          obtain ⟨y11, qy11, h⟩ := jb_some h
          refine J_topi (Option.some.inj qy11) ?_
          refine J_istore_n d_JI_numberOfTrailingZeros_61 (by decide) ?_
          refine J_iload_n d_JI_numberOfTrailingZeros_62 rfl ?_
          refine J_iconst (v := (4 : Int32)) d_JI_numberOfTrailingZeros_63 (by decide) ?_
          refine J_icmp_le (tgt := 74) d_JI_numberOfTrailingZeros_64 (by decide) (fun c => ?_) (fun c => ?_)
          · have h := j_ifp c h
            refine J_iload_n d_JI_numberOfTrailingZeros_74 rfl ?_
            refine J_iload_n d_JI_numberOfTrailingZeros_75 rfl ?_
            refine J_iconst (v := (1 : Int32)) d_JI_numberOfTrailingZeros_76 (by decide) ?_
            refine J_iushr d_JI_numberOfTrailingZeros_77 ?_
            refine J_iadd d_JI_numberOfTrailingZeros_78 ?_
            exact J_iret d_JI_numberOfTrailingZeros_79 rfl rfl (by cases h; exact ⟨rfl, rfl⟩)
          · have h := j_ifn c h
            refine J_iinc (v := ((((1 : Int32) + (16 : Int32)) + (4 : Int32)) + (2 : Int32))) d_JI_numberOfTrailingZeros_67 rfl (by first | rfl | decide) (by decide) ?_
            refine J_iload_n d_JI_numberOfTrailingZeros_70 rfl ?_
            refine J_iconst (v := (2 : Int32)) d_JI_numberOfTrailingZeros_71 (by decide) ?_
            refine J_iushr d_JI_numberOfTrailingZeros_72 ?_
            obtain ⟨y12, qy12, h⟩ := jb_some h
            refine J_topi (Option.some.inj qy12) ?_
            refine J_istore_n d_JI_numberOfTrailingZeros_73 (by decide) ?_
            refine J_iload_n d_JI_numberOfTrailingZeros_74 rfl ?_
            refine J_iload_n d_JI_numberOfTrailingZeros_75 rfl ?_
            refine J_iconst (v := (1 : Int32)) d_JI_numberOfTrailingZeros_76 (by decide) ?_
            refine J_iushr d_JI_numberOfTrailingZeros_77 ?_
            refine J_iadd d_JI_numberOfTrailingZeros_78 ?_
            exact J_iret d_JI_numberOfTrailingZeros_79 rfl rfl (by cases h; exact ⟨rfl, rfl⟩)
      · have h := j_ifn c h
        refine J_iinc (v := (((1 : Int32) + (16 : Int32)) + (8 : Int32))) d_JI_numberOfTrailingZeros_41 rfl (by first | rfl | decide) (by decide) ?_
        refine J_iload_n d_JI_numberOfTrailingZeros_44 rfl ?_
        refine J_bipush (v := (8 : Int32)) d_JI_numberOfTrailingZeros_45 (by decide) ?_
        refine J_iushr d_JI_numberOfTrailingZeros_47 ?_
        obtain ⟨y13, qy13, h⟩ := jb_some h
        refine J_topi (Option.some.inj qy13) ?_
        refine J_istore_n d_JI_numberOfTrailingZeros_48 (by decide) ?_
        refine J_iload_n d_JI_numberOfTrailingZeros_49 rfl ?_
        refine J_bipush (v := (16 : Int32)) d_JI_numberOfTrailingZeros_50 (by decide) ?_
        refine J_icmp_le (tgt := 62) d_JI_numberOfTrailingZeros_52 (by decide) (fun c => ?_) (fun c => ?_)
        · have h := j_ifp c h
          refine J_iload_n d_JI_numberOfTrailingZeros_62 rfl ?_
          refine J_iconst (v := (4 : Int32)) d_JI_numberOfTrailingZeros_63 (by decide) ?_
          refine J_icmp_le (tgt := 74) d_JI_numberOfTrailingZeros_64 (by decide) (fun c => ?_) (fun c => ?_)
          · have h := j_ifp c h
            refine J_iload_n d_JI_numberOfTrailingZeros_74 rfl ?_
            refine J_iload_n d_JI_numberOfTrailingZeros_75 rfl ?_
            refine J_iconst (v := (1 : Int32)) d_JI_numberOfTrailingZeros_76 (by decide) ?_
            refine J_iushr d_JI_numberOfTrailingZeros_77 ?_
            refine J_iadd d_JI_numberOfTrailingZeros_78 ?_
            exact J_iret d_JI_numberOfTrailingZeros_79 rfl rfl (by cases h; exact ⟨rfl, rfl⟩)
          · have h := j_ifn c h
            refine J_iinc (v := ((((1 : Int32) + (16 : Int32)) + (8 : Int32)) + (2 : Int32))) d_JI_numberOfTrailingZeros_67 rfl (by first | rfl | decide) (by decide) ?_
            refine J_iload_n d_JI_numberOfTrailingZeros_70 rfl ?_
            refine J_iconst (v := (2 : Int32)) d_JI_numberOfTrailingZeros_71 (by decide) ?_
            refine J_iushr d_JI_numberOfTrailingZeros_72 ?_
            obtain ⟨y14, qy14, h⟩ := jb_some h
            refine J_topi (Option.some.inj qy14) ?_
            refine J_istore_n d_JI_numberOfTrailingZeros_73 (by decide) ?_
            refine J_iload_n d_JI_numberOfTrailingZeros_74 rfl ?_
            refine J_iload_n d_JI_numberOfTrailingZeros_75 rfl ?_
            refine J_iconst (v := (1 : Int32)) d_JI_numberOfTrailingZeros_76 (by decide) ?_
            refine J_iushr d_JI_numberOfTrailingZeros_77 ?_
            refine J_iadd d_JI_numberOfTrailingZeros_78 ?_
            exact J_iret d_JI_numberOfTrailingZeros_79 rfl rfl (by cases h; exact ⟨rfl, rfl⟩)
        · have h := j_ifn c h
          refine J_iinc (v := ((((1 : Int32) + (16 : Int32)) + (8 : Int32)) + (4 : Int32))) d_JI_numberOfTrailingZeros_55 rfl (by first | rfl | decide) (by decide) ?_
          refine J_iload_n d_JI_numberOfTrailingZeros_58 rfl ?_
          refine J_iconst (v := (4 : Int32)) d_JI_numberOfTrailingZeros_59 (by decide) ?_
          refine J_iushr d_JI_numberOfTrailingZeros_60 ?_
          obtain ⟨y15, qy15, h⟩ := jb_some h
          refine J_topi (Option.some.inj qy15) ?_
          refine J_istore_n d_JI_numberOfTrailingZeros_61 (by decide) ?_
          refine J_iload_n d_JI_numberOfTrailingZeros_62 rfl ?_
          refine J_iconst (v := (4 : Int32)) d_JI_numberOfTrailingZeros_63 (by decide) ?_
          refine J_icmp_le (tgt := 74) d_JI_numberOfTrailingZeros_64 (by decide) (fun c => ?_) (fun c => ?_)
          · have h := j_ifp c h
            refine J_iload_n d_JI_numberOfTrailingZeros_74 rfl ?_
            refine J_iload_n d_JI_numberOfTrailingZeros_75 rfl ?_
            refine J_iconst (v := (1 : Int32)) d_JI_numberOfTrailingZeros_76 (by decide) ?_
            refine J_iushr d_JI_numberOfTrailingZeros_77 ?_
            refine J_iadd d_JI_numberOfTrailingZeros_78 ?_
            exact J_iret d_JI_numberOfTrailingZeros_79 rfl rfl (by cases h; exact ⟨rfl, rfl⟩)
          · have h := j_ifn c h
            refine J_iinc (v := (((((1 : Int32) + (16 : Int32)) + (8 : Int32)) + (4 : Int32)) + (2 : Int32))) d_JI_numberOfTrailingZeros_67 rfl (by first | rfl | decide) (by decide) ?_
            refine J_iload_n d_JI_numberOfTrailingZeros_70 rfl ?_
            refine J_iconst (v := (2 : Int32)) d_JI_numberOfTrailingZeros_71 (by decide) ?_
            refine J_iushr d_JI_numberOfTrailingZeros_72 ?_
            obtain ⟨y16, qy16, h⟩ := jb_some h
            refine J_topi (Option.some.inj qy16) ?_
            refine J_istore_n d_JI_numberOfTrailingZeros_73 (by decide) ?_
            refine J_iload_n d_JI_numberOfTrailingZeros_74 rfl ?_
            refine J_iload_n d_JI_numberOfTrailingZeros_75 rfl ?_
            refine J_iconst (v := (1 : Int32)) d_JI_numberOfTrailingZeros_76 (by decide) ?_
            refine J_iushr d_JI_numberOfTrailingZeros_77 ?_
            refine J_iadd d_JI_numberOfTrailingZeros_78 ?_
            exact J_iret d_JI_numberOfTrailingZeros_79 rfl rfl (by cases h; exact ⟨rfl, rfl⟩)
  · have h := j_ifn c h
    refine J_iload_n d_JI_numberOfTrailingZeros_12 rfl ?_
    refine J_bipush (v := (32 : Int32)) d_JI_numberOfTrailingZeros_13 (by decide) ?_
    refine J_iand d_JI_numberOfTrailingZeros_15 ?_
    exact J_iret d_JI_numberOfTrailingZeros_16 rfl rfl (by cases h; exact ⟨rfl, rfl⟩)
abbrev rm_XA_rightOf : Room := { frames := 0, cells := 0, slots := 0, locals := 0 }
abbrev K_XA_rightOf (l : Launch) := JW l vwCl NsG TsG "ClassifySort$Axioms" prog_2_method_6_code 2 (some .int) rm_XA_rightOf
def m_XA_rightOf (s : jS) (a : jB) (p0 : Int32) : Option (Int32) := jb (if p0 < (0 : Int32) then some (20 : Int32) else (if (s 4) ≤ p0 then some (20 : Int32) else jg (jin p0 40) (some ((a 3) (p0).toNatClampNeg)))) (fun b1 => some (b1))
set_option maxRecDepth 100000 in
set_option maxHeartbeats 4000000 in
theorem c_XA_rightOf (l : Launch) (s : jS) (a : jB) (p0 : Int32) (r : Int32) (h : m_XA_rightOf s a p0 = some r) : JMet l vwCl NsG (.code y_XA_rightOf prog_2_method_6_code 2 (some .int) :: TsG) y_XA_rightOf rm_XA_rightOf [.ref 1, .int p0] (wX s a) (fun v w => v = some (.int r) ∧ w = wX s a) := by
  refine J_enter (by decide +kernel) rfl (Nat.le_of_ble_eq_true rfl) ?_
  unfold m_XA_rightOf at h
  refine J_eq (ls' := [some (.ref 1), some (.int p0)]) rfl rfl rfl rfl ?_
  refine J_iload_n d_XA_rightOf_0 rfl ?_
  obtain ⟨b1, hb1, h⟩ := jb_some h
  have kb1 : K_XA_rightOf l 23 [some (.ref 1), some (.int p0)] [.int b1] (wX s a) (fun v w => v = some (.int r) ∧ w = wX s a) := by
    exact J_iret d_XA_rightOf_23 rfl rfl (by cases h; exact ⟨rfl, rfl⟩)
  clear h
  have h := hb1
  refine J_if_lt (tgt := 21) d_XA_rightOf_1 (by decide) (fun c => ?_) (fun c => ?_)
  · have h := j_ifp c h
    refine J_bipush (v := (20 : Int32)) d_XA_rightOf_21 (by decide) ?_
    cases h
    exact kb1
  · have h := j_ifn c h
    refine J_iload_n d_XA_rightOf_4 rfl ?_
    refine J_aload_n d_XA_rightOf_5 rfl ?_
    refine J_get (j := 2) (v := .int (s 4)) d_XA_rightOf_6 (wX_at1 _ _) rfl in_1 (by decide) ts_39 rfl ?_
    refine J_icmp_ge (tgt := 21) d_XA_rightOf_9 (by decide) (fun c => ?_) (fun c => ?_)
    · have h := j_ifp c h
      refine J_bipush (v := (20 : Int32)) d_XA_rightOf_21 (by decide) ?_
      cases h
      exact kb1
    · have h := j_ifn c h
      refine J_aload_n d_XA_rightOf_12 rfl ?_
      refine J_get (j := 1) (v := .ref 3) d_XA_rightOf_13 (wX_at1 _ _) rfl in_1 (by decide) ts_50 rfl ?_
      refine J_iload_n d_XA_rightOf_16 rfl ?_
      obtain ⟨g, h⟩ := jg_some h
      refine J_iald (f := (a 3)) d_XA_rightOf_17 (wX_at3 _ _) (jin_in g) ?_
      refine J_goto (tgt := 23) d_XA_rightOf_18 (by decide) ?_
      cases h
      exact kb1
abbrev rm_X_tellAxioms : Room := { frames := 4, cells := 0, slots := 0, locals := 86 }
abbrev K_X_tellAxioms (l : Launch) := JW l vwCl NsG TsG "ClassifySort" prog_1_method_22_code 3 none rm_X_tellAxioms
def L_X_tellAxioms_2 (k50 : jS → jB → Option (jS × jB)) : Nat → jS → jB → Int32 → Option (jS × jB)
  | 0, _, _, _ => none
  | f + 1, s, a, x1 => (if (40 : Int32) ≤ x1 then k50 (s) (a) else jb (m_XA_leftOf s a x1) (fun v2 => jb (m_JI_bitCount v2) (fun v4 => (if v4 = (1 : Int32) then jb (m_JI_numberOfTrailingZeros v2) (fun v6 => jb (m_XA_rightOf s a x1) (fun v8 => jb2 (m_XK_tellYes s a v6 v8) (fun s10 a11 => L_X_tellAxioms_2 k50 f (s10) (a11) ((x1 + (1 : Int32)))))) else L_X_tellAxioms_2 k50 f (s) (a) ((x1 + (1 : Int32)))))))
set_option maxRecDepth 100000 in
set_option maxHeartbeats 4000000 in
theorem JL_X_tellAxioms_2 (l : Launch) (k50 : jS → jB → Option (jS × jB)) (r : jS × jB) (hk50 : ∀ (s : jS) (a : jB) (o1 : Option Value) (o2 : Option Value), k50 s a = some r → K_X_tellAxioms l 50 [some (.ref 0), o1, o2] [] (wX s a) (fun v w => v = none ∧ w = wX r.1 r.2)) : ∀ (f : Nat), ∀ (s : jS) (a : jB) (x1 : Int32) (o2 : Option Value), L_X_tellAxioms_2 k50 f s a x1 = some r → K_X_tellAxioms l 2 [some (.ref 0), some (.int x1), o2] [] (wX s a) (fun v w => v = none ∧ w = wX r.1 r.2) := by
  intro f
  induction f with
  | zero =>
    intro s a x1 o2 h
    cases h
  | succ f ih =>
    intro s a x1 o2 h
    rw [L_X_tellAxioms_2] at h
    refine J_iload_n d_X_tellAxioms_2 rfl ?_
    refine J_bipush (v := (40 : Int32)) d_X_tellAxioms_3 (by decide) ?_
    refine J_icmp_ge (tgt := 50) d_X_tellAxioms_5 (by decide) (fun c => ?_) (fun c => ?_)
    · have h := j_ifp c h
      exact hk50 _ _ _ _ h
    · have h := j_ifn c h
      refine J_aload_n d_X_tellAxioms_8 rfl ?_
      refine J_get (j := 0) (v := .ref 1) d_X_tellAxioms_9 (wX_at0 _ _) rfl in_0 (by decide) ts_38 rfl ?_
      refine J_iload_n d_X_tellAxioms_12 rfl ?_
      obtain ⟨v2, e1, h⟩ := jb_some h
      refine J_cVi1 d_X_tellAxioms_13 (c_XA_leftOf l _ _ _ _ e1) (wX_at1 _ _) rfl ts_56 ts_good rfl rfl ts_41 ts_68 dy_XA_leftOf (by decide) (Nat.le_of_ble_eq_true rfl) ts_58 ts_59 ?_
      refine J_istore_n d_X_tellAxioms_16 (by decide) ?_
      refine J_iload_n d_X_tellAxioms_17 rfl ?_
      obtain ⟨v4, e3, h⟩ := jb_some h
      refine J_cSi1 d_X_tellAxioms_18 (c_JI_bitCount l _ _ _ e3) ts_72 ts_good rfl rfl ts_73 ts_74 dy_JI_bitCount (by decide) (Nat.le_of_ble_eq_true rfl) ts_75 ?_
      refine J_iconst (v := (1 : Int32)) d_X_tellAxioms_21 (by decide) ?_
      refine J_icmp_ne (tgt := 44) d_X_tellAxioms_22 (by decide) (fun c => ?_) (fun c => ?_)
      · have h := j_ifn c h
        refine J_iinc (v := (x1 + (1 : Int32))) d_X_tellAxioms_44 rfl (by first | rfl | decide) (by decide) ?_
        refine J_goto (tgt := 2) d_X_tellAxioms_47 (by decide) ?_
        exact ih _ _ _ _ h
      · have h := j_ifp c h
        refine J_aload_n d_X_tellAxioms_25 rfl ?_
        refine J_get (j := 2) (v := .ref 6) d_X_tellAxioms_26 (wX_at0 _ _) rfl in_0 (by decide) ts_1 rfl ?_
        refine J_iload_n d_X_tellAxioms_29 rfl ?_
        obtain ⟨v6, e5, h⟩ := jb_some h
        refine J_cSi1 d_X_tellAxioms_30 (c_JI_numberOfTrailingZeros l _ _ _ e5) ts_77 ts_good rfl rfl ts_73 ts_78 dy_JI_numberOfTrailingZeros (by decide) (Nat.le_of_ble_eq_true rfl) ts_79 ?_
        refine J_aload_n d_X_tellAxioms_33 rfl ?_
        refine J_get (j := 0) (v := .ref 1) d_X_tellAxioms_34 (wX_at0 _ _) rfl in_0 (by decide) ts_38 rfl ?_
        refine J_iload_n d_X_tellAxioms_37 rfl ?_
        obtain ⟨v8, e7, h⟩ := jb_some h
        refine J_cVi1 d_X_tellAxioms_38 (c_XA_rightOf l _ _ _ _ e7) (wX_at1 _ _) rfl ts_80 ts_good rfl rfl ts_41 ts_81 dy_XA_rightOf (by decide) (Nat.le_of_ble_eq_true rfl) ts_82 ts_83 ?_
        obtain ⟨s10, a11, e9, h⟩ := jb2_some h
        refine J_cVv2 d_X_tellAxioms_41 (c_XK_tellYes l _ _ _ _ _ e9) (wX_at6 _ _) rfl ts_10 ts_good rfl rfl ts_11 ts_84 dy_XK_tellYes (by decide) (Nat.le_of_ble_eq_true rfl) ts_13 ts_14 ?_
        refine J_iinc (v := (x1 + (1 : Int32))) d_X_tellAxioms_44 rfl (by first | rfl | decide) (by decide) ?_
        refine J_goto (tgt := 2) d_X_tellAxioms_47 (by decide) ?_
        exact ih _ _ _ _ h
def m_X_tellAxioms (s : jS) (a : jB) : Option (jS × jB) := L_X_tellAxioms_2 (fun s12 a13 => jb2 (m_XK_close s12 a13) (fun s17 a18 => some (s17, a18))) jF (s) (a) ((0 : Int32))
set_option maxRecDepth 100000 in
set_option maxHeartbeats 4000000 in
theorem c_X_tellAxioms (l : Launch) (s : jS) (a : jB) (r : jS × jB) (h : m_X_tellAxioms s a = some r) : JMet l vwCl NsG (.code y_X_tellAxioms prog_1_method_22_code 3 none :: TsG) y_X_tellAxioms rm_X_tellAxioms [.ref 0] (wX s a) (fun v w => v = none ∧ w = wX r.1 r.2) := by
  refine J_enter (by decide +kernel) rfl (Nat.le_of_ble_eq_true rfl) ?_
  unfold m_X_tellAxioms at h
  refine J_eq (ls' := [some (.ref 0), none, none]) rfl rfl rfl rfl ?_
  refine J_iconst (v := (0 : Int32)) d_X_tellAxioms_0 (by decide) ?_
  refine J_istore_n d_X_tellAxioms_1 (by decide) ?_
  refine JL_X_tellAxioms_2 l _ r (fun s12 a13 o14 o15 h => ?_) jF _ _ _ _ h
  refine J_aload_n d_X_tellAxioms_50 rfl ?_
  refine J_get (j := 2) (v := .ref 6) d_X_tellAxioms_51 (wX_at0 _ _) rfl in_0 (by decide) ts_1 rfl ?_
  obtain ⟨s17, a18, e16, h⟩ := jb2_some h
  refine J_cVv0 d_X_tellAxioms_54 (c_XK_close l _ _ _ e16) (wX_at6 _ _) rfl ts_20 ts_good rfl rfl ts_11 ts_85 dy_XK_close (by decide) (Nat.le_of_ble_eq_true rfl) ts_22 ts_23 ?_
  exact J_vret d_X_tellAxioms_57 rfl (by cases h; exact ⟨rfl, rfl⟩)
abbrev rm_X_axiom : Room := { frames := 5, cells := 0, slots := 0, locals := 108 }
abbrev K_X_axiom (l : Launch) := JW l vwCl NsG TsG "ClassifySort" prog_1_method_4_code 6 (some .int) rm_X_axiom
def m_X_axiom (s : jS) (a : jB) (p0 : Int32) (p1 : Int32) (p2 : Int32) : Option (Int32 × jS × jB) := jb (if p1 = (-1 : Int32) then some (1 : Int32) else some (0 : Int32)) (fun b1 => jb (m_X_isClass s a p0) (fun v3 => (if v3 = (0 : Int32) then some ((-1 : Int32), s, a) else (if b1 = (0 : Int32) then jb (m_X_isClass s a p1) (fun v30 => (if v30 = (0 : Int32) then some ((-1 : Int32), s, a) else jb (m_X_isGoal s a p2) (fun v32 => (if v32 = (0 : Int32) then some ((-1 : Int32), s, a) else (if p1 = p0 then some ((-2 : Int32), s, a) else jb (m_XA_isFull s a) (fun v34 => (if v34 = (0 : Int32) then jb (if b1 = (0 : Int32) then jb (m_X_bit p0) (fun v51 => jb (m_X_bit p1) (fun v53 => some (v51 ||| v53))) else jb (m_X_bit p0) (fun v55 => some v55)) (fun b35 => jb (m_X_slot p2) (fun v37 => jb3 (m_XA_add s a b35 v37) (fun v41 s39 a40 => jb (m_XA_touchedBy s39 a40 v41) (fun v43 => jb2 (m_XK_forgetNo s39 a40 v43) (fun s45 a46 => jb2 (m_X_tellAxioms s45 a46) (fun s48 a49 => some (v41, (upd s48 3 (0 : Int32)), a49))))))) else some ((-4 : Int32), s, a)))))))) else jb (m_X_isGoal s a p2) (fun v5 => (if v5 = (0 : Int32) then some ((-1 : Int32), s, a) else (if p1 = p0 then some ((-2 : Int32), s, a) else jb (m_XA_isFull s a) (fun v7 => (if v7 = (0 : Int32) then jb (if b1 = (0 : Int32) then jb (m_X_bit p0) (fun v24 => jb (m_X_bit p1) (fun v26 => some (v24 ||| v26))) else jb (m_X_bit p0) (fun v28 => some v28)) (fun b8 => jb (m_X_slot p2) (fun v10 => jb3 (m_XA_add s a b8 v10) (fun v14 s12 a13 => jb (m_XA_touchedBy s12 a13 v14) (fun v16 => jb2 (m_XK_forgetNo s12 a13 v16) (fun s18 a19 => jb2 (m_X_tellAxioms s18 a19) (fun s21 a22 => some (v14, (upd s21 3 (0 : Int32)), a22))))))) else some ((-4 : Int32), s, a))))))))))
set_option maxRecDepth 100000 in
set_option maxHeartbeats 4000000 in
theorem c_X_axiom (l : Launch) (s : jS) (a : jB) (p0 : Int32) (p1 : Int32) (p2 : Int32) (r : Int32 × jS × jB) (h : m_X_axiom s a p0 p1 p2 = some r) : JMet l vwCl NsG (.code y_X_axiom prog_1_method_4_code 6 (some .int) :: TsG) y_X_axiom rm_X_axiom [.ref 0, .int p0, .int p1, .int p2] (wX s a) (fun v w => v = some (.int r.1) ∧ w = wX r.2.1 r.2.2) := by
  refine J_enter (by decide +kernel) rfl (Nat.le_of_ble_eq_true rfl) ?_
  unfold m_X_axiom at h
  refine J_eq (ls' := [some (.ref 0), some (.int p0), some (.int p1), some (.int p2), none, none]) rfl rfl rfl rfl ?_
  refine J_iload_n d_X_axiom_0 rfl ?_
  refine J_iconst (v := (-1 : Int32)) d_X_axiom_1 (by decide) ?_
  obtain ⟨b1, hb1, h⟩ := jb_some h
  have kb1 : K_X_axiom l 10 [some (.ref 0), some (.int p0), some (.int p1), some (.int p2), none, none] [.int b1] (wX s a) (fun v w => v = some (.int r.1) ∧ w = wX r.2.1 r.2.2) := by
    refine J_istore d_X_axiom_10 (by decide) ?_
    refine J_aload_n d_X_axiom_12 rfl ?_
    refine J_iload_n d_X_axiom_13 rfl ?_
    obtain ⟨v3, e2, h⟩ := jb_some h
    refine J_cVi1 d_X_axiom_14 (c_X_isClass l _ _ _ _ e2) (wX_at0 _ _) rfl ts_30 ts_good rfl rfl ts_4 ts_31 dy_X_isClass (by decide) (Nat.le_of_ble_eq_true rfl) ts_32 ts_33 ?_
    refine J_if_eq (tgt := 41) d_X_axiom_17 (by decide) (fun c => ?_) (fun c => ?_)
    · have h := j_ifp c h
      refine J_iconst (v := (-1 : Int32)) d_X_axiom_41 (by decide) ?_
      exact J_iret d_X_axiom_42 rfl rfl (by cases h; exact ⟨rfl, rfl⟩)
    · have h := j_ifn c h
      refine J_iload d_X_axiom_20 rfl ?_
      refine J_if_ne (tgt := 33) d_X_axiom_22 (by decide) (fun c => ?_) (fun c => ?_)
      · have h := j_ifn c h
        refine J_aload_n d_X_axiom_33 rfl ?_
        refine J_iload_n d_X_axiom_34 rfl ?_
        obtain ⟨v5, e4, h⟩ := jb_some h
        refine J_cVi1 d_X_axiom_35 (c_X_isGoal l _ _ _ _ e4) (wX_at0 _ _) rfl ts_34 ts_good rfl rfl ts_4 ts_35 dy_X_isGoal (by decide) (Nat.le_of_ble_eq_true rfl) ts_36 ts_37 ?_
        refine J_if_ne (tgt := 43) d_X_axiom_38 (by decide) (fun c => ?_) (fun c => ?_)
        · have h := j_ifn c h
          refine J_iload_n d_X_axiom_43 rfl ?_
          refine J_iload_n d_X_axiom_44 rfl ?_
          refine J_icmp_ne (tgt := 51) d_X_axiom_45 (by decide) (fun c => ?_) (fun c => ?_)
          · have h := j_ifn c h
            refine J_aload_n d_X_axiom_51 rfl ?_
            refine J_get (j := 0) (v := .ref 1) d_X_axiom_52 (wX_at0 _ _) rfl in_0 (by decide) ts_38 rfl ?_
            obtain ⟨v7, e6, h⟩ := jb_some h
            refine J_cVi0 d_X_axiom_55 (c_XA_isFull l _ _ _ e6) (wX_at1 _ _) rfl ts_40 ts_good rfl rfl ts_41 ts_42 dy_XA_isFull (by decide) (Nat.le_of_ble_eq_true rfl) ts_43 ts_44 ?_
            refine J_if_eq (tgt := 64) d_X_axiom_58 (by decide) (fun c => ?_) (fun c => ?_)
            · have h := j_ifp c h
              refine J_aload_n d_X_axiom_64 rfl ?_
              refine J_get (j := 0) (v := .ref 1) d_X_axiom_65 (wX_at0 _ _) rfl in_0 (by decide) ts_38 rfl ?_
              refine J_iload d_X_axiom_68 rfl ?_
              obtain ⟨b8, hb8, h⟩ := jb_some h
              have kb8 : K_X_axiom l 89 [some (.ref 0), some (.int p0), some (.int p1), some (.int p2), some (.int b1), none] [.int b8, .ref 1] (wX s a) (fun v w => v = some (.int r.1) ∧ w = wX r.2.1 r.2.2) := by
                refine J_iload_n d_X_axiom_89 rfl ?_
                obtain ⟨v10, e9, h⟩ := jb_some h
                refine J_cSi1 d_X_axiom_90 (c_X_slot l _ _ _ e9) ts_45 ts_good rfl rfl ts_4 ts_46 dy_X_slot (by decide) (Nat.le_of_ble_eq_true rfl) ts_47 ?_
                obtain ⟨v14, s12, a13, e11, h⟩ := jb3_some h
                refine J_cVi2 d_X_axiom_93 (c_XA_add l _ _ _ _ _ e11) (wX_at1 _ _) rfl ts_52 ts_good rfl rfl ts_41 ts_53 dy_XA_add (by decide) (Nat.le_of_ble_eq_true rfl) ts_54 ts_55 ?_
                refine J_istore d_X_axiom_96 (by decide) ?_
                refine J_aload_n d_X_axiom_98 rfl ?_
                refine J_get (j := 2) (v := .ref 6) d_X_axiom_99 (wX_at0 _ _) rfl in_0 (by decide) ts_1 rfl ?_
                refine J_aload_n d_X_axiom_102 rfl ?_
                refine J_get (j := 0) (v := .ref 1) d_X_axiom_103 (wX_at0 _ _) rfl in_0 (by decide) ts_38 rfl ?_
                refine J_iload d_X_axiom_106 rfl ?_
                obtain ⟨v16, e15, h⟩ := jb_some h
                refine J_cVi1 d_X_axiom_108 (c_XA_touchedBy l _ _ _ _ e15) (wX_at1 _ _) rfl ts_60 ts_good rfl rfl ts_41 ts_61 dy_XA_touchedBy (by decide) (Nat.le_of_ble_eq_true rfl) ts_62 ts_63 ?_
                obtain ⟨s18, a19, e17, h⟩ := jb2_some h
                refine J_cVv1 d_X_axiom_111 (c_XK_forgetNo l _ _ _ _ e17) (wX_at6 _ _) rfl ts_64 ts_good rfl rfl ts_11 ts_65 dy_XK_forgetNo (by decide) (Nat.le_of_ble_eq_true rfl) ts_66 ts_67 ?_
                refine J_aload_n d_X_axiom_114 rfl ?_
                obtain ⟨s21, a22, e20, h⟩ := jb2_some h
                refine J_cVv0 d_X_axiom_115 (c_X_tellAxioms l _ _ _ e20) (wX_at0 _ _) rfl ts_86 ts_good rfl rfl ts_4 ts_87 dy_X_tellAxioms (by decide) (Nat.le_of_ble_eq_true rfl) ts_88 ts_89 ?_
                refine J_aload_n d_X_axiom_118 rfl ?_
                refine J_iconst (v := (0 : Int32)) d_X_axiom_119 (by decide) ?_
                refine J_put (j := 8) d_X_axiom_120 (wX_at0 _ _) rfl in_0 ty_X tyok_X nok_X (by decide) ts_28 rfl (tyok_X 8 (by decide)) (by decide) (by decide) (Nat.le_of_ble_eq_true rfl) ?_
                refine J_eq rfl rfl rfl (wX_put3 _ _ _) ?_
                refine J_iload d_X_axiom_123 rfl ?_
                exact J_iret d_X_axiom_125 rfl rfl (by cases h; exact ⟨rfl, rfl⟩)
              clear h
              have h := hb8
              refine J_if_eq (tgt := 80) d_X_axiom_70 (by decide) (fun c => ?_) (fun c => ?_)
              · have h := j_ifp c h
                refine J_iload_n d_X_axiom_80 rfl ?_
                obtain ⟨v24, e23, h⟩ := jb_some h
                refine J_cSi1 d_X_axiom_81 (c_X_bit l _ _ _ e23) ts_3 ts_good rfl rfl ts_4 ts_7 dy_X_bit (by decide) (Nat.le_of_ble_eq_true rfl) ts_5 ?_
                refine J_iload_n d_X_axiom_84 rfl ?_
                obtain ⟨v26, e25, h⟩ := jb_some h
                refine J_cSi1 d_X_axiom_85 (c_X_bit l _ _ _ e25) ts_3 ts_good rfl rfl ts_4 ts_7 dy_X_bit (by decide) (Nat.le_of_ble_eq_true rfl) ts_5 ?_
                refine J_ior d_X_axiom_88 ?_
                cases h
                exact kb8
              · have h := j_ifn c h
                refine J_iload_n d_X_axiom_73 rfl ?_
                obtain ⟨v28, e27, h⟩ := jb_some h
                refine J_cSi1 d_X_axiom_74 (c_X_bit l _ _ _ e27) ts_3 ts_good rfl rfl ts_4 ts_7 dy_X_bit (by decide) (Nat.le_of_ble_eq_true rfl) ts_5 ?_
                refine J_goto (tgt := 89) d_X_axiom_77 (by decide) ?_
                cases h
                exact kb8
            · have h := j_ifn c h
              refine J_bipush (v := (-4 : Int32)) d_X_axiom_61 (by decide) ?_
              exact J_iret d_X_axiom_63 rfl rfl (by cases h; exact ⟨rfl, rfl⟩)
          · have h := j_ifp c h
            refine J_bipush (v := (-2 : Int32)) d_X_axiom_48 (by decide) ?_
            exact J_iret d_X_axiom_50 rfl rfl (by cases h; exact ⟨rfl, rfl⟩)
        · have h := j_ifp c h
          refine J_iconst (v := (-1 : Int32)) d_X_axiom_41 (by decide) ?_
          exact J_iret d_X_axiom_42 rfl rfl (by cases h; exact ⟨rfl, rfl⟩)
      · have h := j_ifp c h
        refine J_aload_n d_X_axiom_25 rfl ?_
        refine J_iload_n d_X_axiom_26 rfl ?_
        obtain ⟨v30, e29, h⟩ := jb_some h
        refine J_cVi1 d_X_axiom_27 (c_X_isClass l _ _ _ _ e29) (wX_at0 _ _) rfl ts_30 ts_good rfl rfl ts_4 ts_31 dy_X_isClass (by decide) (Nat.le_of_ble_eq_true rfl) ts_32 ts_33 ?_
        refine J_if_eq (tgt := 41) d_X_axiom_30 (by decide) (fun c => ?_) (fun c => ?_)
        · have h := j_ifp c h
          refine J_iconst (v := (-1 : Int32)) d_X_axiom_41 (by decide) ?_
          exact J_iret d_X_axiom_42 rfl rfl (by cases h; exact ⟨rfl, rfl⟩)
        · have h := j_ifn c h
          refine J_aload_n d_X_axiom_33 rfl ?_
          refine J_iload_n d_X_axiom_34 rfl ?_
          obtain ⟨v32, e31, h⟩ := jb_some h
          refine J_cVi1 d_X_axiom_35 (c_X_isGoal l _ _ _ _ e31) (wX_at0 _ _) rfl ts_34 ts_good rfl rfl ts_4 ts_35 dy_X_isGoal (by decide) (Nat.le_of_ble_eq_true rfl) ts_36 ts_37 ?_
          refine J_if_ne (tgt := 43) d_X_axiom_38 (by decide) (fun c => ?_) (fun c => ?_)
          · have h := j_ifn c h
            refine J_iload_n d_X_axiom_43 rfl ?_
            refine J_iload_n d_X_axiom_44 rfl ?_
            refine J_icmp_ne (tgt := 51) d_X_axiom_45 (by decide) (fun c => ?_) (fun c => ?_)
            · have h := j_ifn c h
              refine J_aload_n d_X_axiom_51 rfl ?_
              refine J_get (j := 0) (v := .ref 1) d_X_axiom_52 (wX_at0 _ _) rfl in_0 (by decide) ts_38 rfl ?_
              obtain ⟨v34, e33, h⟩ := jb_some h
              refine J_cVi0 d_X_axiom_55 (c_XA_isFull l _ _ _ e33) (wX_at1 _ _) rfl ts_40 ts_good rfl rfl ts_41 ts_42 dy_XA_isFull (by decide) (Nat.le_of_ble_eq_true rfl) ts_43 ts_44 ?_
              refine J_if_eq (tgt := 64) d_X_axiom_58 (by decide) (fun c => ?_) (fun c => ?_)
              · have h := j_ifp c h
                refine J_aload_n d_X_axiom_64 rfl ?_
                refine J_get (j := 0) (v := .ref 1) d_X_axiom_65 (wX_at0 _ _) rfl in_0 (by decide) ts_38 rfl ?_
                refine J_iload d_X_axiom_68 rfl ?_
                obtain ⟨b35, hb35, h⟩ := jb_some h
                have kb35 : K_X_axiom l 89 [some (.ref 0), some (.int p0), some (.int p1), some (.int p2), some (.int b1), none] [.int b35, .ref 1] (wX s a) (fun v w => v = some (.int r.1) ∧ w = wX r.2.1 r.2.2) := by
                  refine J_iload_n d_X_axiom_89 rfl ?_
                  obtain ⟨v37, e36, h⟩ := jb_some h
                  refine J_cSi1 d_X_axiom_90 (c_X_slot l _ _ _ e36) ts_45 ts_good rfl rfl ts_4 ts_46 dy_X_slot (by decide) (Nat.le_of_ble_eq_true rfl) ts_47 ?_
                  obtain ⟨v41, s39, a40, e38, h⟩ := jb3_some h
                  refine J_cVi2 d_X_axiom_93 (c_XA_add l _ _ _ _ _ e38) (wX_at1 _ _) rfl ts_52 ts_good rfl rfl ts_41 ts_53 dy_XA_add (by decide) (Nat.le_of_ble_eq_true rfl) ts_54 ts_55 ?_
                  refine J_istore d_X_axiom_96 (by decide) ?_
                  refine J_aload_n d_X_axiom_98 rfl ?_
                  refine J_get (j := 2) (v := .ref 6) d_X_axiom_99 (wX_at0 _ _) rfl in_0 (by decide) ts_1 rfl ?_
                  refine J_aload_n d_X_axiom_102 rfl ?_
                  refine J_get (j := 0) (v := .ref 1) d_X_axiom_103 (wX_at0 _ _) rfl in_0 (by decide) ts_38 rfl ?_
                  refine J_iload d_X_axiom_106 rfl ?_
                  obtain ⟨v43, e42, h⟩ := jb_some h
                  refine J_cVi1 d_X_axiom_108 (c_XA_touchedBy l _ _ _ _ e42) (wX_at1 _ _) rfl ts_60 ts_good rfl rfl ts_41 ts_61 dy_XA_touchedBy (by decide) (Nat.le_of_ble_eq_true rfl) ts_62 ts_63 ?_
                  obtain ⟨s45, a46, e44, h⟩ := jb2_some h
                  refine J_cVv1 d_X_axiom_111 (c_XK_forgetNo l _ _ _ _ e44) (wX_at6 _ _) rfl ts_64 ts_good rfl rfl ts_11 ts_65 dy_XK_forgetNo (by decide) (Nat.le_of_ble_eq_true rfl) ts_66 ts_67 ?_
                  refine J_aload_n d_X_axiom_114 rfl ?_
                  obtain ⟨s48, a49, e47, h⟩ := jb2_some h
                  refine J_cVv0 d_X_axiom_115 (c_X_tellAxioms l _ _ _ e47) (wX_at0 _ _) rfl ts_86 ts_good rfl rfl ts_4 ts_87 dy_X_tellAxioms (by decide) (Nat.le_of_ble_eq_true rfl) ts_88 ts_89 ?_
                  refine J_aload_n d_X_axiom_118 rfl ?_
                  refine J_iconst (v := (0 : Int32)) d_X_axiom_119 (by decide) ?_
                  refine J_put (j := 8) d_X_axiom_120 (wX_at0 _ _) rfl in_0 ty_X tyok_X nok_X (by decide) ts_28 rfl (tyok_X 8 (by decide)) (by decide) (by decide) (Nat.le_of_ble_eq_true rfl) ?_
                  refine J_eq rfl rfl rfl (wX_put3 _ _ _) ?_
                  refine J_iload d_X_axiom_123 rfl ?_
                  exact J_iret d_X_axiom_125 rfl rfl (by cases h; exact ⟨rfl, rfl⟩)
                clear h
                have h := hb35
                refine J_if_eq (tgt := 80) d_X_axiom_70 (by decide) (fun c => ?_) (fun c => ?_)
                · have h := j_ifp c h
                  refine J_iload_n d_X_axiom_80 rfl ?_
                  obtain ⟨v51, e50, h⟩ := jb_some h
                  refine J_cSi1 d_X_axiom_81 (c_X_bit l _ _ _ e50) ts_3 ts_good rfl rfl ts_4 ts_7 dy_X_bit (by decide) (Nat.le_of_ble_eq_true rfl) ts_5 ?_
                  refine J_iload_n d_X_axiom_84 rfl ?_
                  obtain ⟨v53, e52, h⟩ := jb_some h
                  refine J_cSi1 d_X_axiom_85 (c_X_bit l _ _ _ e52) ts_3 ts_good rfl rfl ts_4 ts_7 dy_X_bit (by decide) (Nat.le_of_ble_eq_true rfl) ts_5 ?_
                  refine J_ior d_X_axiom_88 ?_
                  cases h
                  exact kb35
                · have h := j_ifn c h
                  refine J_iload_n d_X_axiom_73 rfl ?_
                  obtain ⟨v55, e54, h⟩ := jb_some h
                  refine J_cSi1 d_X_axiom_74 (c_X_bit l _ _ _ e54) ts_3 ts_good rfl rfl ts_4 ts_7 dy_X_bit (by decide) (Nat.le_of_ble_eq_true rfl) ts_5 ?_
                  refine J_goto (tgt := 89) d_X_axiom_77 (by decide) ?_
                  cases h
                  exact kb35
              · have h := j_ifn c h
                refine J_bipush (v := (-4 : Int32)) d_X_axiom_61 (by decide) ?_
                exact J_iret d_X_axiom_63 rfl rfl (by cases h; exact ⟨rfl, rfl⟩)
            · have h := j_ifp c h
              refine J_bipush (v := (-2 : Int32)) d_X_axiom_48 (by decide) ?_
              exact J_iret d_X_axiom_50 rfl rfl (by cases h; exact ⟨rfl, rfl⟩)
          · have h := j_ifp c h
            refine J_iconst (v := (-1 : Int32)) d_X_axiom_41 (by decide) ?_
            exact J_iret d_X_axiom_42 rfl rfl (by cases h; exact ⟨rfl, rfl⟩)
  clear h
  have h := hb1
  refine J_icmp_ne (tgt := 9) d_X_axiom_2 (by decide) (fun c => ?_) (fun c => ?_)
  · have h := j_ifn c h
    refine J_iconst (v := (0 : Int32)) d_X_axiom_9 (by decide) ?_
    cases h
    exact kb1
  · have h := j_ifp c h
    refine J_iconst (v := (1 : Int32)) d_X_axiom_5 (by decide) ?_
    refine J_goto (tgt := 10) d_X_axiom_6 (by decide) ?_
    cases h
    exact kb1
abbrev rm_XA_isThere : Room := { frames := 1, cells := 0, slots := 0, locals := 21 }
abbrev K_XA_isThere (l : Launch) := JW l vwCl NsG TsG "ClassifySort$Axioms" prog_2_method_3_code 2 (some .boolean) rm_XA_isThere
def m_XA_isThere (s : jS) (a : jB) (p0 : Int32) : Option (Int32) := jb (m_XA_leftOf s a p0) (fun v2 => jb (if v2 = (0 : Int32) then some (0 : Int32) else some (1 : Int32)) (fun b3 => jg (jz b3) (some (b3))))
set_option maxRecDepth 100000 in
set_option maxHeartbeats 4000000 in
theorem c_XA_isThere (l : Launch) (s : jS) (a : jB) (p0 : Int32) (r : Int32) (h : m_XA_isThere s a p0 = some r) : JMet l vwCl NsG (.code y_XA_isThere prog_2_method_3_code 2 (some .boolean) :: TsG) y_XA_isThere rm_XA_isThere [.ref 1, .int p0] (wX s a) (fun v w => v = some (.int r) ∧ w = wX s a) := by
  refine J_enter (by decide +kernel) rfl (Nat.le_of_ble_eq_true rfl) ?_
  unfold m_XA_isThere at h
  refine J_eq (ls' := [some (.ref 1), some (.int p0)]) rfl rfl rfl rfl ?_
  refine J_aload_n d_XA_isThere_0 rfl ?_
  refine J_iload_n d_XA_isThere_1 rfl ?_
  obtain ⟨v2, e1, h⟩ := jb_some h
  refine J_cVi1 d_XA_isThere_2 (c_XA_leftOf l _ _ _ _ e1) (wX_at1 _ _) rfl ts_56 ts_good rfl rfl ts_41 ts_57 dy_XA_leftOf (by decide) (Nat.le_of_ble_eq_true rfl) ts_58 ts_59 ?_
  obtain ⟨b3, hb3, h⟩ := jb_some h
  have kb3 : K_XA_isThere l 13 [some (.ref 1), some (.int p0)] [.int b3] (wX s a) (fun v w => v = some (.int r) ∧ w = wX s a) := by
    obtain ⟨g, h⟩ := jg_some h
    exact J_iret d_XA_isThere_13 rfl (jz_nar g) (by cases h; exact ⟨rfl, rfl⟩)
  clear h
  have h := hb3
  refine J_if_eq (tgt := 12) d_XA_isThere_5 (by decide) (fun c => ?_) (fun c => ?_)
  · have h := j_ifp c h
    refine J_iconst (v := (0 : Int32)) d_XA_isThere_12 (by decide) ?_
    cases h
    exact kb3
  · have h := j_ifn c h
    refine J_iconst (v := (1 : Int32)) d_XA_isThere_8 (by decide) ?_
    refine J_goto (tgt := 13) d_XA_isThere_9 (by decide) ?_
    cases h
    exact kb3
abbrev rm_XK_knownPairs : Room := { frames := 1, cells := 0, slots := 0, locals := 20 }
abbrev K_XK_knownPairs (l : Launch) := JW l vwCl NsG TsG "ClassifySort$Knowledge" prog_3_method_16_code 4 (some .int) rm_XK_knownPairs
def L_XK_knownPairs_4 (s : jS) (a : jB) (c1 : Int32) (k47 : Int32 → Option (Int32)) : Nat → Int32 → Int32 → Option (Int32)
  | 0, _, _ => none
  | f + 1, x2, x3 => (if c1 ≤ x3 then k47 (x2) else (if (20 : Int32) ≤ x3 then k47 (x2) else jg (jin x3 21) (jg (jin x3 21) (jg (jin x3 21) (jb (m_JI_bitCount ((((a 7) (x3).toNatClampNeg) ||| ((a 9) (x3).toNatClampNeg)) ||| ((a 10) (x3).toNatClampNeg))) (fun v2 => L_XK_knownPairs_4 s a c1 k47 f ((x2 + v2)) ((x3 + (1 : Int32)))))))))
set_option maxRecDepth 100000 in
set_option maxHeartbeats 4000000 in
theorem JL_XK_knownPairs_4 (l : Launch) (s : jS) (a : jB) (c1 : Int32) (k47 : Int32 → Option (Int32)) (r : Int32) (hk47 : ∀ (x2 : Int32) (o3 : Option Value), k47 x2 = some r → K_XK_knownPairs l 47 [some (.ref 6), some (.int c1), some (.int x2), o3] [] (wX s a) (fun v w => v = some (.int r) ∧ w = wX s a)) : ∀ (f : Nat), ∀ (x2 : Int32) (x3 : Int32), L_XK_knownPairs_4 s a c1 k47 f x2 x3 = some r → K_XK_knownPairs l 4 [some (.ref 6), some (.int c1), some (.int x2), some (.int x3)] [] (wX s a) (fun v w => v = some (.int r) ∧ w = wX s a) := by
  intro f
  induction f with
  | zero =>
    intro x2 x3 h
    cases h
  | succ f ih =>
    intro x2 x3 h
    rw [L_XK_knownPairs_4] at h
    refine J_iload_n d_XK_knownPairs_4 rfl ?_
    refine J_iload_n d_XK_knownPairs_5 rfl ?_
    refine J_icmp_ge (tgt := 47) d_XK_knownPairs_6 (by decide) (fun c => ?_) (fun c => ?_)
    · have h := j_ifp c h
      exact hk47 _ _ h
    · have h := j_ifn c h
      refine J_iload_n d_XK_knownPairs_9 rfl ?_
      refine J_bipush (v := (20 : Int32)) d_XK_knownPairs_10 (by decide) ?_
      refine J_icmp_ge (tgt := 47) d_XK_knownPairs_12 (by decide) (fun c => ?_) (fun c => ?_)
      · have h := j_ifp c h
        exact hk47 _ _ h
      · have h := j_ifn c h
        refine J_iload_n d_XK_knownPairs_15 rfl ?_
        refine J_aload_n d_XK_knownPairs_16 rfl ?_
        refine J_get (j := 0) (v := .ref 7) d_XK_knownPairs_17 (wX_at6 _ _) rfl in_3 (by decide) ts_2 rfl ?_
        refine J_iload_n d_XK_knownPairs_20 rfl ?_
        obtain ⟨g, h⟩ := jg_some h
        refine J_iald (f := (a 7)) d_XK_knownPairs_21 (wX_at7 _ _) (jin_in g) ?_
        refine J_aload_n d_XK_knownPairs_22 rfl ?_
        refine J_get (j := 2) (v := .ref 9) d_XK_knownPairs_23 (wX_at6 _ _) rfl in_3 (by decide) ts_15 rfl ?_
        refine J_iload_n d_XK_knownPairs_26 rfl ?_
        obtain ⟨g, h⟩ := jg_some h
        refine J_iald (f := (a 9)) d_XK_knownPairs_27 (wX_at9 _ _) (jin_in g) ?_
        refine J_ior d_XK_knownPairs_28 ?_
        refine J_aload_n d_XK_knownPairs_29 rfl ?_
        refine J_get (j := 3) (v := .ref 10) d_XK_knownPairs_30 (wX_at6 _ _) rfl in_3 (by decide) ts_19 rfl ?_
        refine J_iload_n d_XK_knownPairs_33 rfl ?_
        obtain ⟨g, h⟩ := jg_some h
        refine J_iald (f := (a 10)) d_XK_knownPairs_34 (wX_at10 _ _) (jin_in g) ?_
        refine J_ior d_XK_knownPairs_35 ?_
        obtain ⟨v2, e1, h⟩ := jb_some h
        refine J_cSi1 d_XK_knownPairs_36 (c_JI_bitCount l _ _ _ e1) ts_72 ts_good rfl rfl ts_73 ts_94 dy_JI_bitCount (by decide) (Nat.le_of_ble_eq_true rfl) ts_75 ?_
        refine J_iadd d_XK_knownPairs_39 ?_
        refine J_istore_n d_XK_knownPairs_40 (by decide) ?_
        refine J_iinc (v := (x3 + (1 : Int32))) d_XK_knownPairs_41 rfl (by first | rfl | decide) (by decide) ?_
        refine J_goto (tgt := 4) d_XK_knownPairs_44 (by decide) ?_
        exact ih _ _ h
def m_XK_knownPairs (s : jS) (a : jB) (p0 : Int32) : Option (Int32) := L_XK_knownPairs_4 (s) (a) (p0) (fun x3 => some (x3)) jF ((0 : Int32)) ((0 : Int32))
set_option maxRecDepth 100000 in
set_option maxHeartbeats 4000000 in
theorem c_XK_knownPairs (l : Launch) (s : jS) (a : jB) (p0 : Int32) (r : Int32) (h : m_XK_knownPairs s a p0 = some r) : JMet l vwCl NsG (.code y_XK_knownPairs prog_3_method_16_code 4 (some .int) :: TsG) y_XK_knownPairs rm_XK_knownPairs [.ref 6, .int p0] (wX s a) (fun v w => v = some (.int r) ∧ w = wX s a) := by
  refine J_enter (by decide +kernel) rfl (Nat.le_of_ble_eq_true rfl) ?_
  unfold m_XK_knownPairs at h
  refine J_eq (ls' := [some (.ref 6), some (.int p0), none, none]) rfl rfl rfl rfl ?_
  refine J_iconst (v := (0 : Int32)) d_XK_knownPairs_0 (by decide) ?_
  refine J_istore_n d_XK_knownPairs_1 (by decide) ?_
  refine J_iconst (v := (0 : Int32)) d_XK_knownPairs_2 (by decide) ?_
  refine J_istore_n d_XK_knownPairs_3 (by decide) ?_
  refine JL_XK_knownPairs_4 l _ _ _ _ r (fun x3 o4 h => ?_) jF _ _ h
  refine J_iload_n d_XK_knownPairs_47 rfl ?_
  exact J_iret d_XK_knownPairs_48 rfl rfl (by cases h; exact ⟨rfl, rfl⟩)
abbrev rm_XA_drop : Room := { frames := 2, cells := 0, slots := 0, locals := 42 }
abbrev K_XA_drop (l : Launch) := JW l vwCl NsG TsG "ClassifySort$Axioms" prog_2_method_8_code 2 none rm_XA_drop
def m_XA_drop (s : jS) (a : jB) (p0 : Int32) : Option (jS × jB) := jb (m_XA_isThere s a p0) (fun v2 => (if v2 = (0 : Int32) then some (s, a) else jg (jin p0 40) (some ((upd s 5 ((s 5) - (1 : Int32))), (va_up a 2 (upd (a 2) (p0).toNatClampNeg (0 : Int32)))))))
set_option maxRecDepth 100000 in
set_option maxHeartbeats 4000000 in
theorem c_XA_drop (l : Launch) (s : jS) (a : jB) (p0 : Int32) (r : jS × jB) (h : m_XA_drop s a p0 = some r) : JMet l vwCl NsG (.code y_XA_drop prog_2_method_8_code 2 none :: TsG) y_XA_drop rm_XA_drop [.ref 1, .int p0] (wX s a) (fun v w => v = none ∧ w = wX r.1 r.2) := by
  refine J_enter (by decide +kernel) rfl (Nat.le_of_ble_eq_true rfl) ?_
  unfold m_XA_drop at h
  refine J_eq (ls' := [some (.ref 1), some (.int p0)]) rfl rfl rfl rfl ?_
  refine J_aload_n d_XA_drop_0 rfl ?_
  refine J_iload_n d_XA_drop_1 rfl ?_
  obtain ⟨v2, e1, h⟩ := jb_some h
  refine J_cVi1 d_XA_drop_2 (c_XA_isThere l _ _ _ _ e1) (wX_at1 _ _) rfl ts_90 ts_good rfl rfl ts_41 ts_99 dy_XA_isThere (by decide) (Nat.le_of_ble_eq_true rfl) ts_92 ts_93 ?_
  refine J_if_eq (tgt := 25) d_XA_drop_5 (by decide) (fun c => ?_) (fun c => ?_)
  · have h := j_ifp c h
    exact J_vret d_XA_drop_25 rfl (by cases h; exact ⟨rfl, rfl⟩)
  · have h := j_ifn c h
    refine J_aload_n d_XA_drop_8 rfl ?_
    refine J_get (j := 0) (v := .ref 2) d_XA_drop_9 (wX_at1 _ _) rfl in_1 (by decide) ts_49 rfl ?_
    refine J_iload_n d_XA_drop_12 rfl ?_
    refine J_iconst (v := (0 : Int32)) d_XA_drop_13 (by decide) ?_
    obtain ⟨g, h⟩ := jg_some h
    refine J_iast (f := (a 2)) d_XA_drop_14 (wX_at2 _ _) (jin_in g) ?_
    refine J_eq (ws' := wX s (va_up a 2 (upd (a 2) (p0).toNatClampNeg (0 : Int32)))) rfl rfl rfl (wX_ast2 _ _ _) ?_
    refine J_aload_n d_XA_drop_15 rfl ?_
    refine J_dup d_XA_drop_16 rfl ?_
    refine J_get (j := 3) (v := .int (s 5)) d_XA_drop_17 (wX_at1 _ _) rfl in_1 (by decide) ts_51 rfl ?_
    refine J_iconst (v := (1 : Int32)) d_XA_drop_20 (by decide) ?_
    refine J_isub d_XA_drop_21 ?_
    refine J_put (j := 3) d_XA_drop_22 (wX_at1 _ _) rfl in_1 ty_XA tyok_XA nok_XA (by decide) ts_51 rfl (tyok_XA 3 (by decide)) rfl rfl (Nat.le_of_ble_eq_true rfl) ?_
    refine J_eq rfl rfl rfl (wX_put5 _ _ _) ?_
    exact J_vret d_XA_drop_25 rfl (by cases h; exact ⟨rfl, rfl⟩)
abbrev rm_XK_forgetYes : Room := { frames := 2, cells := 0, slots := 0, locals := 41 }
abbrev K_XK_forgetYes (l : Launch) := JW l vwCl NsG TsG "ClassifySort$Knowledge" prog_3_method_14_code 3 none rm_XK_forgetYes
def L_XK_forgetYes_2 (c1 : Int32) (k64 : jS → jB → Option (jS × jB)) : Nat → jS → jB → Int32 → Option (jS × jB)
  | 0, _, _, _ => none
  | f + 1, s, a, x2 => (if (21 : Int32) ≤ x2 then k64 (s) (a) else jg (jin x2 21) (jg (jin x2 21) (jb (m_X_has c1 x2) (fun v2 => (if v2 = (0 : Int32) then L_XK_forgetYes_2 c1 k64 f (s) ((va_up a 8 (upd (a 8) (x2).toNatClampNeg (((a 8) (x2).toNatClampNeg) &&& (c1 ^^^ (-1 : Int32)))))) ((x2 + (1 : Int32))) else jb (m_X_bit x2) (fun v4 => jg (jin x2 21) (jg (jin x2 21) (jb (m_X_bit x2) (fun v6 => jg (jin x2 21) (jg (jin x2 21) (L_XK_forgetYes_2 c1 k64 f (s) ((va_up (va_up (va_up (va_up a 8 (upd (a 8) (x2).toNatClampNeg (((a 8) (x2).toNatClampNeg) &&& (c1 ^^^ (-1 : Int32))))) 7 (upd ((va_up a 8 (upd (a 8) (x2).toNatClampNeg (((a 8) (x2).toNatClampNeg) &&& (c1 ^^^ (-1 : Int32))))) 7) (x2).toNatClampNeg v4)) 8 (upd (upd (a 8) (x2).toNatClampNeg (((a 8) (x2).toNatClampNeg) &&& (c1 ^^^ (-1 : Int32)))) (x2).toNatClampNeg (((upd (a 8) (x2).toNatClampNeg (((a 8) (x2).toNatClampNeg) &&& (c1 ^^^ (-1 : Int32)))) (x2).toNatClampNeg) ||| v6))) 10 (upd ((va_up (va_up (va_up a 8 (upd (a 8) (x2).toNatClampNeg (((a 8) (x2).toNatClampNeg) &&& (c1 ^^^ (-1 : Int32))))) 7 (upd ((va_up a 8 (upd (a 8) (x2).toNatClampNeg (((a 8) (x2).toNatClampNeg) &&& (c1 ^^^ (-1 : Int32))))) 7) (x2).toNatClampNeg v4)) 8 (upd (upd (a 8) (x2).toNatClampNeg (((a 8) (x2).toNatClampNeg) &&& (c1 ^^^ (-1 : Int32)))) (x2).toNatClampNeg (((upd (a 8) (x2).toNatClampNeg (((a 8) (x2).toNatClampNeg) &&& (c1 ^^^ (-1 : Int32)))) (x2).toNatClampNeg) ||| v6))) 10) (x2).toNatClampNeg (0 : Int32)))) ((x2 + (1 : Int32))))))))))))))
set_option maxRecDepth 100000 in
set_option maxHeartbeats 4000000 in
theorem JL_XK_forgetYes_2 (l : Launch) (c1 : Int32) (k64 : jS → jB → Option (jS × jB)) (r : jS × jB) (hk64 : ∀ (s : jS) (a : jB) (o2 : Option Value), k64 s a = some r → K_XK_forgetYes l 64 [some (.ref 6), some (.int c1), o2] [] (wX s a) (fun v w => v = none ∧ w = wX r.1 r.2)) : ∀ (f : Nat), ∀ (s : jS) (a : jB) (x2 : Int32), L_XK_forgetYes_2 c1 k64 f s a x2 = some r → K_XK_forgetYes l 2 [some (.ref 6), some (.int c1), some (.int x2)] [] (wX s a) (fun v w => v = none ∧ w = wX r.1 r.2) := by
  intro f
  induction f with
  | zero =>
    intro s a x2 h
    cases h
  | succ f ih =>
    intro s a x2 h
    rw [L_XK_forgetYes_2] at h
    refine J_iload_n d_XK_forgetYes_2 rfl ?_
    refine J_bipush (v := (21 : Int32)) d_XK_forgetYes_3 (by decide) ?_
    refine J_icmp_ge (tgt := 64) d_XK_forgetYes_5 (by decide) (fun c => ?_) (fun c => ?_)
    · have h := j_ifp c h
      exact hk64 _ _ _ h
    · have h := j_ifn c h
      refine J_aload_n d_XK_forgetYes_8 rfl ?_
      refine J_get (j := 1) (v := .ref 8) d_XK_forgetYes_9 (wX_at6 _ _) rfl in_3 (by decide) ts_6 rfl ?_
      refine J_iload_n d_XK_forgetYes_12 rfl ?_
      refine J_dup2 d_XK_forgetYes_13 rfl rfl ?_
      obtain ⟨g, h⟩ := jg_some h
      refine J_iald (f := (a 8)) d_XK_forgetYes_14 (wX_at8 _ _) (jin_in g) ?_
      refine J_iload_n d_XK_forgetYes_15 rfl ?_
      refine J_iconst (v := (-1 : Int32)) d_XK_forgetYes_16 (by decide) ?_
      refine J_ixor d_XK_forgetYes_17 ?_
      refine J_iand d_XK_forgetYes_18 ?_
      obtain ⟨g, h⟩ := jg_some h
      refine J_iast (f := (a 8)) d_XK_forgetYes_19 (wX_at8 _ _) (jin_in g) ?_
      refine J_eq (ws' := wX s (va_up a 8 (upd (a 8) (x2).toNatClampNeg (((a 8) (x2).toNatClampNeg) &&& (c1 ^^^ (-1 : Int32)))))) rfl rfl rfl (wX_ast8 _ _ _) ?_
      refine J_iload_n d_XK_forgetYes_20 rfl ?_
      refine J_iload_n d_XK_forgetYes_21 rfl ?_
      obtain ⟨v2, e1, h⟩ := jb_some h
      refine J_cSi2N d_XK_forgetYes_22 (c_X_has l _ _ _ _ e1) ts_8 ts_good rfl rfl ts_4 ns_1 dy_X_has (by decide) (Nat.le_of_ble_eq_true rfl) ts_9 ?_
      refine J_if_eq (tgt := 58) d_XK_forgetYes_25 (by decide) (fun c => ?_) (fun c => ?_)
      · have h := j_ifp c h
        refine J_iinc (v := (x2 + (1 : Int32))) d_XK_forgetYes_58 rfl (by first | rfl | decide) (by decide) ?_
        refine J_goto (tgt := 2) d_XK_forgetYes_61 (by decide) ?_
        exact ih _ _ _ h
      · have h := j_ifn c h
        refine J_aload_n d_XK_forgetYes_28 rfl ?_
        refine J_get (j := 0) (v := .ref 7) d_XK_forgetYes_29 (wX_at6 _ _) rfl in_3 (by decide) ts_2 rfl ?_
        refine J_iload_n d_XK_forgetYes_32 rfl ?_
        refine J_iload_n d_XK_forgetYes_33 rfl ?_
        obtain ⟨v4, e3, h⟩ := jb_some h
        refine J_cSi1N d_XK_forgetYes_34 (c_X_bit l _ _ _ e3) ts_3 ts_good rfl rfl ts_4 ns_0 dy_X_bit (by decide) (Nat.le_of_ble_eq_true rfl) ts_5 ?_
        obtain ⟨g, h⟩ := jg_some h
        refine J_iast (f := ((va_up a 8 (upd (a 8) (x2).toNatClampNeg (((a 8) (x2).toNatClampNeg) &&& (c1 ^^^ (-1 : Int32))))) 7)) d_XK_forgetYes_37 (wX_at7 _ _) (jin_in g) ?_
        refine J_eq (ws' := wX s (va_up (va_up a 8 (upd (a 8) (x2).toNatClampNeg (((a 8) (x2).toNatClampNeg) &&& (c1 ^^^ (-1 : Int32))))) 7 (upd ((va_up a 8 (upd (a 8) (x2).toNatClampNeg (((a 8) (x2).toNatClampNeg) &&& (c1 ^^^ (-1 : Int32))))) 7) (x2).toNatClampNeg v4))) rfl rfl rfl (wX_ast7 _ _ _) ?_
        refine J_aload_n d_XK_forgetYes_38 rfl ?_
        refine J_get (j := 1) (v := .ref 8) d_XK_forgetYes_39 (wX_at6 _ _) rfl in_3 (by decide) ts_6 rfl ?_
        refine J_iload_n d_XK_forgetYes_42 rfl ?_
        refine J_dup2 d_XK_forgetYes_43 rfl rfl ?_
        obtain ⟨g, h⟩ := jg_some h
        refine J_iald (f := (upd (a 8) (x2).toNatClampNeg (((a 8) (x2).toNatClampNeg) &&& (c1 ^^^ (-1 : Int32))))) d_XK_forgetYes_44 (wX_at8 _ _) (jin_in g) ?_
        refine J_iload_n d_XK_forgetYes_45 rfl ?_
        obtain ⟨v6, e5, h⟩ := jb_some h
        refine J_cSi1N d_XK_forgetYes_46 (c_X_bit l _ _ _ e5) ts_3 ts_good rfl rfl ts_4 ns_0 dy_X_bit (by decide) (Nat.le_of_ble_eq_true rfl) ts_5 ?_
        refine J_ior d_XK_forgetYes_49 ?_
        obtain ⟨g, h⟩ := jg_some h
        refine J_iast (f := (upd (a 8) (x2).toNatClampNeg (((a 8) (x2).toNatClampNeg) &&& (c1 ^^^ (-1 : Int32))))) d_XK_forgetYes_50 (wX_at8 _ _) (jin_in g) ?_
        refine J_eq (ws' := wX s (va_up (va_up (va_up a 8 (upd (a 8) (x2).toNatClampNeg (((a 8) (x2).toNatClampNeg) &&& (c1 ^^^ (-1 : Int32))))) 7 (upd ((va_up a 8 (upd (a 8) (x2).toNatClampNeg (((a 8) (x2).toNatClampNeg) &&& (c1 ^^^ (-1 : Int32))))) 7) (x2).toNatClampNeg v4)) 8 (upd (upd (a 8) (x2).toNatClampNeg (((a 8) (x2).toNatClampNeg) &&& (c1 ^^^ (-1 : Int32)))) (x2).toNatClampNeg (((upd (a 8) (x2).toNatClampNeg (((a 8) (x2).toNatClampNeg) &&& (c1 ^^^ (-1 : Int32)))) (x2).toNatClampNeg) ||| v6)))) rfl rfl rfl (wX_ast8 _ _ _) ?_
        refine J_aload_n d_XK_forgetYes_51 rfl ?_
        refine J_get (j := 3) (v := .ref 10) d_XK_forgetYes_52 (wX_at6 _ _) rfl in_3 (by decide) ts_19 rfl ?_
        refine J_iload_n d_XK_forgetYes_55 rfl ?_
        refine J_iconst (v := (0 : Int32)) d_XK_forgetYes_56 (by decide) ?_
        obtain ⟨g, h⟩ := jg_some h
        refine J_iast (f := ((va_up (va_up (va_up a 8 (upd (a 8) (x2).toNatClampNeg (((a 8) (x2).toNatClampNeg) &&& (c1 ^^^ (-1 : Int32))))) 7 (upd ((va_up a 8 (upd (a 8) (x2).toNatClampNeg (((a 8) (x2).toNatClampNeg) &&& (c1 ^^^ (-1 : Int32))))) 7) (x2).toNatClampNeg v4)) 8 (upd (upd (a 8) (x2).toNatClampNeg (((a 8) (x2).toNatClampNeg) &&& (c1 ^^^ (-1 : Int32)))) (x2).toNatClampNeg (((upd (a 8) (x2).toNatClampNeg (((a 8) (x2).toNatClampNeg) &&& (c1 ^^^ (-1 : Int32)))) (x2).toNatClampNeg) ||| v6))) 10)) d_XK_forgetYes_57 (wX_at10 _ _) (jin_in g) ?_
        refine J_eq (ws' := wX s (va_up (va_up (va_up (va_up a 8 (upd (a 8) (x2).toNatClampNeg (((a 8) (x2).toNatClampNeg) &&& (c1 ^^^ (-1 : Int32))))) 7 (upd ((va_up a 8 (upd (a 8) (x2).toNatClampNeg (((a 8) (x2).toNatClampNeg) &&& (c1 ^^^ (-1 : Int32))))) 7) (x2).toNatClampNeg v4)) 8 (upd (upd (a 8) (x2).toNatClampNeg (((a 8) (x2).toNatClampNeg) &&& (c1 ^^^ (-1 : Int32)))) (x2).toNatClampNeg (((upd (a 8) (x2).toNatClampNeg (((a 8) (x2).toNatClampNeg) &&& (c1 ^^^ (-1 : Int32)))) (x2).toNatClampNeg) ||| v6))) 10 (upd ((va_up (va_up (va_up a 8 (upd (a 8) (x2).toNatClampNeg (((a 8) (x2).toNatClampNeg) &&& (c1 ^^^ (-1 : Int32))))) 7 (upd ((va_up a 8 (upd (a 8) (x2).toNatClampNeg (((a 8) (x2).toNatClampNeg) &&& (c1 ^^^ (-1 : Int32))))) 7) (x2).toNatClampNeg v4)) 8 (upd (upd (a 8) (x2).toNatClampNeg (((a 8) (x2).toNatClampNeg) &&& (c1 ^^^ (-1 : Int32)))) (x2).toNatClampNeg (((upd (a 8) (x2).toNatClampNeg (((a 8) (x2).toNatClampNeg) &&& (c1 ^^^ (-1 : Int32)))) (x2).toNatClampNeg) ||| v6))) 10) (x2).toNatClampNeg (0 : Int32)))) rfl rfl rfl (wX_ast10 _ _ _) ?_
        refine J_iinc (v := (x2 + (1 : Int32))) d_XK_forgetYes_58 rfl (by first | rfl | decide) (by decide) ?_
        refine J_goto (tgt := 2) d_XK_forgetYes_61 (by decide) ?_
        exact ih _ _ _ h
def m_XK_forgetYes (s : jS) (a : jB) (p0 : Int32) : Option (jS × jB) := L_XK_forgetYes_2 (p0) (fun s7 a8 => some (s7, a8)) jF (s) (a) ((0 : Int32))
set_option maxRecDepth 100000 in
set_option maxHeartbeats 4000000 in
theorem c_XK_forgetYes (l : Launch) (s : jS) (a : jB) (p0 : Int32) (r : jS × jB) (h : m_XK_forgetYes s a p0 = some r) : JMet l vwCl NsG (.code y_XK_forgetYes prog_3_method_14_code 3 none :: TsG) y_XK_forgetYes rm_XK_forgetYes [.ref 6, .int p0] (wX s a) (fun v w => v = none ∧ w = wX r.1 r.2) := by
  refine J_enter (by decide +kernel) rfl (Nat.le_of_ble_eq_true rfl) ?_
  unfold m_XK_forgetYes at h
  refine J_eq (ls' := [some (.ref 6), some (.int p0), none]) rfl rfl rfl rfl ?_
  refine J_iconst (v := (0 : Int32)) d_XK_forgetYes_0 (by decide) ?_
  refine J_istore_n d_XK_forgetYes_1 (by decide) ?_
  refine JL_XK_forgetYes_2 l _ _ r (fun s7 a8 o9 h => ?_) jF _ _ _ h
  exact J_vret d_XK_forgetYes_64 rfl (by cases h; exact ⟨rfl, rfl⟩)
abbrev rm_X_remove : Room := { frames := 5, cells := 0, slots := 0, locals := 108 }
abbrev K_X_remove (l : Launch) := JW l vwCl NsG TsG "ClassifySort" prog_1_method_5_code 4 (some .int) rm_X_remove
def m_X_remove (s : jS) (a : jB) (p0 : Int32) : Option (Int32 × jS × jB) := jb (m_XA_isThere s a p0) (fun v2 => (if v2 = (0 : Int32) then some ((-1 : Int32), s, a) else jb (m_XK_knownPairs s a (s 0)) (fun v4 => jb (m_XA_touchedBy s a p0) (fun v6 => jb2 (m_XA_drop s a p0) (fun s8 a9 => jb2 (m_XK_forgetYes s8 a9 v6) (fun s11 a12 => jb2 (m_X_tellAxioms s11 a12) (fun s14 a15 => jb (m_XK_knownPairs (upd s14 3 (0 : Int32)) a15 ((upd s14 3 (0 : Int32)) 0)) (fun v17 => some ((v4 - v17), (upd s14 3 (0 : Int32)), a15)))))))))
set_option maxRecDepth 100000 in
set_option maxHeartbeats 4000000 in
theorem c_X_remove (l : Launch) (s : jS) (a : jB) (p0 : Int32) (r : Int32 × jS × jB) (h : m_X_remove s a p0 = some r) : JMet l vwCl NsG (.code y_X_remove prog_1_method_5_code 4 (some .int) :: TsG) y_X_remove rm_X_remove [.ref 0, .int p0] (wX s a) (fun v w => v = some (.int r.1) ∧ w = wX r.2.1 r.2.2) := by
  refine J_enter (by decide +kernel) rfl (Nat.le_of_ble_eq_true rfl) ?_
  unfold m_X_remove at h
  refine J_eq (ls' := [some (.ref 0), some (.int p0), none, none]) rfl rfl rfl rfl ?_
  refine J_aload_n d_X_remove_0 rfl ?_
  refine J_get (j := 0) (v := .ref 1) d_X_remove_1 (wX_at0 _ _) rfl in_0 (by decide) ts_38 rfl ?_
  refine J_iload_n d_X_remove_4 rfl ?_
  obtain ⟨v2, e1, h⟩ := jb_some h
  refine J_cVi1 d_X_remove_5 (c_XA_isThere l _ _ _ _ e1) (wX_at1 _ _) rfl ts_90 ts_good rfl rfl ts_41 ts_91 dy_XA_isThere (by decide) (Nat.le_of_ble_eq_true rfl) ts_92 ts_93 ?_
  refine J_if_ne (tgt := 13) d_X_remove_8 (by decide) (fun c => ?_) (fun c => ?_)
  · have h := j_ifn c h
    refine J_aload_n d_X_remove_13 rfl ?_
    refine J_get (j := 2) (v := .ref 6) d_X_remove_14 (wX_at0 _ _) rfl in_0 (by decide) ts_1 rfl ?_
    refine J_aload_n d_X_remove_17 rfl ?_
    refine J_get (j := 5) (v := .int (s 0)) d_X_remove_18 (wX_at0 _ _) rfl in_0 (by decide) ts_0 rfl ?_
    obtain ⟨v4, e3, h⟩ := jb_some h
    refine J_cVi1 d_X_remove_21 (c_XK_knownPairs l _ _ _ _ e3) (wX_at6 _ _) rfl ts_95 ts_good rfl rfl ts_11 ts_96 dy_XK_knownPairs (by decide) (Nat.le_of_ble_eq_true rfl) ts_97 ts_98 ?_
    refine J_istore_n d_X_remove_24 (by decide) ?_
    refine J_aload_n d_X_remove_25 rfl ?_
    refine J_get (j := 0) (v := .ref 1) d_X_remove_26 (wX_at0 _ _) rfl in_0 (by decide) ts_38 rfl ?_
    refine J_iload_n d_X_remove_29 rfl ?_
    obtain ⟨v6, e5, h⟩ := jb_some h
    refine J_cVi1 d_X_remove_30 (c_XA_touchedBy l _ _ _ _ e5) (wX_at1 _ _) rfl ts_60 ts_good rfl rfl ts_41 ts_61 dy_XA_touchedBy (by decide) (Nat.le_of_ble_eq_true rfl) ts_62 ts_63 ?_
    refine J_istore_n d_X_remove_33 (by decide) ?_
    refine J_aload_n d_X_remove_34 rfl ?_
    refine J_get (j := 0) (v := .ref 1) d_X_remove_35 (wX_at0 _ _) rfl in_0 (by decide) ts_38 rfl ?_
    refine J_iload_n d_X_remove_38 rfl ?_
    obtain ⟨s8, a9, e7, h⟩ := jb2_some h
    refine J_cVv1 d_X_remove_39 (c_XA_drop l _ _ _ _ e7) (wX_at1 _ _) rfl ts_100 ts_good rfl rfl ts_41 ts_101 dy_XA_drop (by decide) (Nat.le_of_ble_eq_true rfl) ts_102 ts_103 ?_
    refine J_aload_n d_X_remove_42 rfl ?_
    refine J_get (j := 2) (v := .ref 6) d_X_remove_43 (wX_at0 _ _) rfl in_0 (by decide) ts_1 rfl ?_
    refine J_iload_n d_X_remove_46 rfl ?_
    obtain ⟨s11, a12, e10, h⟩ := jb2_some h
    refine J_cVv1 d_X_remove_47 (c_XK_forgetYes l _ _ _ _ e10) (wX_at6 _ _) rfl ts_104 ts_good rfl rfl ts_11 ts_105 dy_XK_forgetYes (by decide) (Nat.le_of_ble_eq_true rfl) ts_106 ts_107 ?_
    refine J_aload_n d_X_remove_50 rfl ?_
    obtain ⟨s14, a15, e13, h⟩ := jb2_some h
    refine J_cVv0 d_X_remove_51 (c_X_tellAxioms l _ _ _ e13) (wX_at0 _ _) rfl ts_86 ts_good rfl rfl ts_4 ts_87 dy_X_tellAxioms (by decide) (Nat.le_of_ble_eq_true rfl) ts_88 ts_89 ?_
    refine J_aload_n d_X_remove_54 rfl ?_
    refine J_iconst (v := (0 : Int32)) d_X_remove_55 (by decide) ?_
    refine J_put (j := 8) d_X_remove_56 (wX_at0 _ _) rfl in_0 ty_X tyok_X nok_X (by decide) ts_28 rfl (tyok_X 8 (by decide)) (by decide) (by decide) (Nat.le_of_ble_eq_true rfl) ?_
    refine J_eq rfl rfl rfl (wX_put3 _ _ _) ?_
    refine J_iload_n d_X_remove_59 rfl ?_
    refine J_aload_n d_X_remove_60 rfl ?_
    refine J_get (j := 2) (v := .ref 6) d_X_remove_61 (wX_at0 _ _) rfl in_0 (by decide) ts_1 rfl ?_
    refine J_aload_n d_X_remove_64 rfl ?_
    refine J_get (j := 5) (v := .int ((upd s14 3 (0 : Int32)) 0)) d_X_remove_65 (wX_at0 _ _) rfl in_0 (by decide) ts_0 rfl ?_
    obtain ⟨v17, e16, h⟩ := jb_some h
    refine J_cVi1 d_X_remove_68 (c_XK_knownPairs l _ _ _ _ e16) (wX_at6 _ _) rfl ts_95 ts_good rfl rfl ts_11 ts_96 dy_XK_knownPairs (by decide) (Nat.le_of_ble_eq_true rfl) ts_97 ts_98 ?_
    refine J_isub d_X_remove_71 ?_
    exact J_iret d_X_remove_72 rfl rfl (by cases h; exact ⟨rfl, rfl⟩)
  · have h := j_ifp c h
    refine J_iconst (v := (-1 : Int32)) d_X_remove_11 (by decide) ?_
    exact J_iret d_X_remove_12 rfl rfl (by cases h; exact ⟨rfl, rfl⟩)
abbrev rm_XK_openPairs : Room := { frames := 1, cells := 0, slots := 0, locals := 20 }
abbrev K_XK_openPairs (l : Launch) := JW l vwCl NsG TsG "ClassifySort$Knowledge" prog_3_method_17_code 4 (some .int) rm_XK_openPairs
def L_XK_openPairs_4 (s : jS) (a : jB) (c1 : Int32) (k33 : Int32 → Option (Int32)) : Nat → Int32 → Int32 → Option (Int32)
  | 0, _, _ => none
  | f + 1, x2, x3 => (if c1 ≤ x3 then k33 (x2) else (if (20 : Int32) ≤ x3 then k33 (x2) else jg (jin x3 21) (jb (m_JI_bitCount ((a 10) (x3).toNatClampNeg)) (fun v2 => L_XK_openPairs_4 s a c1 k33 f ((x2 + v2)) ((x3 + (1 : Int32)))))))
set_option maxRecDepth 100000 in
set_option maxHeartbeats 4000000 in
theorem JL_XK_openPairs_4 (l : Launch) (s : jS) (a : jB) (c1 : Int32) (k33 : Int32 → Option (Int32)) (r : Int32) (hk33 : ∀ (x2 : Int32) (o3 : Option Value), k33 x2 = some r → K_XK_openPairs l 33 [some (.ref 6), some (.int c1), some (.int x2), o3] [] (wX s a) (fun v w => v = some (.int r) ∧ w = wX s a)) : ∀ (f : Nat), ∀ (x2 : Int32) (x3 : Int32), L_XK_openPairs_4 s a c1 k33 f x2 x3 = some r → K_XK_openPairs l 4 [some (.ref 6), some (.int c1), some (.int x2), some (.int x3)] [] (wX s a) (fun v w => v = some (.int r) ∧ w = wX s a) := by
  intro f
  induction f with
  | zero =>
    intro x2 x3 h
    cases h
  | succ f ih =>
    intro x2 x3 h
    rw [L_XK_openPairs_4] at h
    refine J_iload_n d_XK_openPairs_4 rfl ?_
    refine J_iload_n d_XK_openPairs_5 rfl ?_
    refine J_icmp_ge (tgt := 33) d_XK_openPairs_6 (by decide) (fun c => ?_) (fun c => ?_)
    · have h := j_ifp c h
      exact hk33 _ _ h
    · have h := j_ifn c h
      refine J_iload_n d_XK_openPairs_9 rfl ?_
      refine J_bipush (v := (20 : Int32)) d_XK_openPairs_10 (by decide) ?_
      refine J_icmp_ge (tgt := 33) d_XK_openPairs_12 (by decide) (fun c => ?_) (fun c => ?_)
      · have h := j_ifp c h
        exact hk33 _ _ h
      · have h := j_ifn c h
        refine J_iload_n d_XK_openPairs_15 rfl ?_
        refine J_aload_n d_XK_openPairs_16 rfl ?_
        refine J_get (j := 3) (v := .ref 10) d_XK_openPairs_17 (wX_at6 _ _) rfl in_3 (by decide) ts_19 rfl ?_
        refine J_iload_n d_XK_openPairs_20 rfl ?_
        obtain ⟨g, h⟩ := jg_some h
        refine J_iald (f := (a 10)) d_XK_openPairs_21 (wX_at10 _ _) (jin_in g) ?_
        obtain ⟨v2, e1, h⟩ := jb_some h
        refine J_cSi1 d_XK_openPairs_22 (c_JI_bitCount l _ _ _ e1) ts_72 ts_good rfl rfl ts_73 ts_94 dy_JI_bitCount (by decide) (Nat.le_of_ble_eq_true rfl) ts_75 ?_
        refine J_iadd d_XK_openPairs_25 ?_
        refine J_istore_n d_XK_openPairs_26 (by decide) ?_
        refine J_iinc (v := (x3 + (1 : Int32))) d_XK_openPairs_27 rfl (by first | rfl | decide) (by decide) ?_
        refine J_goto (tgt := 4) d_XK_openPairs_30 (by decide) ?_
        exact ih _ _ h
def m_XK_openPairs (s : jS) (a : jB) (p0 : Int32) : Option (Int32) := L_XK_openPairs_4 (s) (a) (p0) (fun x3 => some (x3)) jF ((0 : Int32)) ((0 : Int32))
set_option maxRecDepth 100000 in
set_option maxHeartbeats 4000000 in
theorem c_XK_openPairs (l : Launch) (s : jS) (a : jB) (p0 : Int32) (r : Int32) (h : m_XK_openPairs s a p0 = some r) : JMet l vwCl NsG (.code y_XK_openPairs prog_3_method_17_code 4 (some .int) :: TsG) y_XK_openPairs rm_XK_openPairs [.ref 6, .int p0] (wX s a) (fun v w => v = some (.int r) ∧ w = wX s a) := by
  refine J_enter (by decide +kernel) rfl (Nat.le_of_ble_eq_true rfl) ?_
  unfold m_XK_openPairs at h
  refine J_eq (ls' := [some (.ref 6), some (.int p0), none, none]) rfl rfl rfl rfl ?_
  refine J_iconst (v := (0 : Int32)) d_XK_openPairs_0 (by decide) ?_
  refine J_istore_n d_XK_openPairs_1 (by decide) ?_
  refine J_iconst (v := (0 : Int32)) d_XK_openPairs_2 (by decide) ?_
  refine J_istore_n d_XK_openPairs_3 (by decide) ?_
  refine JL_XK_openPairs_4 l _ _ _ _ r (fun x3 o4 h => ?_) jF _ _ h
  refine J_iload_n d_XK_openPairs_33 rfl ?_
  exact J_iret d_XK_openPairs_34 rfl rfl (by cases h; exact ⟨rfl, rfl⟩)
abbrev rm_XR_fillUp : Room := { frames := 1, cells := 0, slots := 0, locals := 29 }
abbrev K_XR_fillUp (l : Launch) := JW l vwCl NsG TsG "ClassifySort$Reasoner" prog_5_method_2_code 2 none rm_XR_fillUp
def m_XR_fillUp (s : jS) (a : jB) (p0 : Int32) : Option (jS × jB) := some ((upd s 6 (if (0 : Int32) < (if (20 : Int32) < p0 then (20 : Int32) else p0) then (if (20 : Int32) < p0 then (20 : Int32) else p0) else (0 : Int32))), a)
set_option maxRecDepth 100000 in
set_option maxHeartbeats 4000000 in
theorem c_XR_fillUp (l : Launch) (s : jS) (a : jB) (p0 : Int32) (r : jS × jB) (h : m_XR_fillUp s a p0 = some r) : JMet l vwCl NsG (.code y_XR_fillUp prog_5_method_2_code 2 none :: TsG) y_XR_fillUp rm_XR_fillUp [.ref 4, .int p0] (wX s a) (fun v w => v = none ∧ w = wX r.1 r.2) := by
  refine J_enter (by decide +kernel) rfl (Nat.le_of_ble_eq_true rfl) ?_
  unfold m_XR_fillUp at h
  refine J_eq (ls' := [some (.ref 4), some (.int p0)]) rfl rfl rfl rfl ?_
  refine J_aload_n d_XR_fillUp_0 rfl ?_
  refine J_iconst (v := (0 : Int32)) d_XR_fillUp_1 (by decide) ?_
  refine J_iload_n d_XR_fillUp_2 rfl ?_
  refine J_bipush (v := (20 : Int32)) d_XR_fillUp_3 (by decide) ?_
  refine J_mmin d_XR_fillUp_5 ts_113 ts_114 ts_115 ts_116 (by decide) (Nat.le_of_ble_eq_true rfl) ?_
  refine J_mmax d_XR_fillUp_8 ts_117 ts_118 ts_115 ts_119 (by decide) (Nat.le_of_ble_eq_true rfl) ?_
  refine J_put (j := 2) d_XR_fillUp_11 (wX_at4 _ _) rfl in_2 ty_XR tyok_XR nok_XR (by decide) ts_120 rfl (tyok_XR 2 (by decide)) rfl rfl (Nat.le_of_ble_eq_true rfl) ?_
  refine J_eq rfl rfl rfl (wX_put6 _ _ _) ?_
  exact J_vret d_XR_fillUp_14 rfl (by cases h; exact ⟨rfl, rfl⟩)
abbrev rm_XK_forgetOpen : Room := { frames := 0, cells := 0, slots := 0, locals := 0 }
abbrev K_XK_forgetOpen (l : Launch) := JW l vwCl NsG TsG "ClassifySort$Knowledge" prog_3_method_15_code 2 none rm_XK_forgetOpen
def L_XK_forgetOpen_2 (k21 : jS → jB → Option (jS × jB)) : Nat → jS → jB → Int32 → Option (jS × jB)
  | 0, _, _, _ => none
  | f + 1, s, a, x1 => (if (21 : Int32) ≤ x1 then k21 (s) (a) else jg (jin x1 21) (L_XK_forgetOpen_2 k21 f (s) ((va_up a 10 (upd (a 10) (x1).toNatClampNeg (0 : Int32)))) ((x1 + (1 : Int32)))))
set_option maxRecDepth 100000 in
set_option maxHeartbeats 4000000 in
theorem JL_XK_forgetOpen_2 (l : Launch) (k21 : jS → jB → Option (jS × jB)) (r : jS × jB) (hk21 : ∀ (s : jS) (a : jB) (o1 : Option Value), k21 s a = some r → K_XK_forgetOpen l 21 [some (.ref 6), o1] [] (wX s a) (fun v w => v = none ∧ w = wX r.1 r.2)) : ∀ (f : Nat), ∀ (s : jS) (a : jB) (x1 : Int32), L_XK_forgetOpen_2 k21 f s a x1 = some r → K_XK_forgetOpen l 2 [some (.ref 6), some (.int x1)] [] (wX s a) (fun v w => v = none ∧ w = wX r.1 r.2) := by
  intro f
  induction f with
  | zero =>
    intro s a x1 h
    cases h
  | succ f ih =>
    intro s a x1 h
    rw [L_XK_forgetOpen_2] at h
    refine J_iload_n d_XK_forgetOpen_2 rfl ?_
    refine J_bipush (v := (21 : Int32)) d_XK_forgetOpen_3 (by decide) ?_
    refine J_icmp_ge (tgt := 21) d_XK_forgetOpen_5 (by decide) (fun c => ?_) (fun c => ?_)
    · have h := j_ifp c h
      exact hk21 _ _ _ h
    · have h := j_ifn c h
      refine J_aload_n d_XK_forgetOpen_8 rfl ?_
      refine J_get (j := 3) (v := .ref 10) d_XK_forgetOpen_9 (wX_at6 _ _) rfl in_3 (by decide) ts_19 rfl ?_
      refine J_iload_n d_XK_forgetOpen_12 rfl ?_
      refine J_iconst (v := (0 : Int32)) d_XK_forgetOpen_13 (by decide) ?_
      obtain ⟨g, h⟩ := jg_some h
      refine J_iast (f := (a 10)) d_XK_forgetOpen_14 (wX_at10 _ _) (jin_in g) ?_
      refine J_eq (ws' := wX s (va_up a 10 (upd (a 10) (x1).toNatClampNeg (0 : Int32)))) rfl rfl rfl (wX_ast10 _ _ _) ?_
      refine J_iinc (v := (x1 + (1 : Int32))) d_XK_forgetOpen_15 rfl (by first | rfl | decide) (by decide) ?_
      refine J_goto (tgt := 2) d_XK_forgetOpen_18 (by decide) ?_
      exact ih _ _ _ h
def m_XK_forgetOpen (s : jS) (a : jB) : Option (jS × jB) := L_XK_forgetOpen_2 (fun s1 a2 => some (s1, a2)) jF (s) (a) ((0 : Int32))
set_option maxRecDepth 100000 in
set_option maxHeartbeats 4000000 in
theorem c_XK_forgetOpen (l : Launch) (s : jS) (a : jB) (r : jS × jB) (h : m_XK_forgetOpen s a = some r) : JMet l vwCl NsG (.code y_XK_forgetOpen prog_3_method_15_code 2 none :: TsG) y_XK_forgetOpen rm_XK_forgetOpen [.ref 6] (wX s a) (fun v w => v = none ∧ w = wX r.1 r.2) := by
  refine J_enter (by decide +kernel) rfl (Nat.le_of_ble_eq_true rfl) ?_
  unfold m_XK_forgetOpen at h
  refine J_eq (ls' := [some (.ref 6), none]) rfl rfl rfl rfl ?_
  refine J_iconst (v := (0 : Int32)) d_XK_forgetOpen_0 (by decide) ?_
  refine J_istore_n d_XK_forgetOpen_1 (by decide) ?_
  refine JL_XK_forgetOpen_2 l _ r (fun s1 a2 o3 h => ?_) jF _ _ _ h
  exact J_vret d_XK_forgetOpen_21 rfl (by cases h; exact ⟨rfl, rfl⟩)
abbrev rm_X_fuel : Room := { frames := 2, cells := 0, slots := 0, locals := 50 }
abbrev K_X_fuel (l : Launch) := JW l vwCl NsG TsG "ClassifySort" prog_1_method_6_code 3 (some .int) rm_X_fuel
def m_X_fuel (s : jS) (a : jB) (p0 : Int32) : Option (Int32 × jS × jB) := (if p0 < (0 : Int32) then some ((-2 : Int32), s, a) else (if p0 ≤ (20 : Int32) then jb (m_XK_openPairs s a (s 0)) (fun v2 => jb2 (m_XR_fillUp s a p0) (fun s4 a5 => jb2 (m_XK_forgetOpen s4 a5) (fun s7 a8 => some (v2, (upd s7 3 (0 : Int32)), a8)))) else some ((-2 : Int32), s, a)))
set_option maxRecDepth 100000 in
set_option maxHeartbeats 4000000 in
theorem c_X_fuel (l : Launch) (s : jS) (a : jB) (p0 : Int32) (r : Int32 × jS × jB) (h : m_X_fuel s a p0 = some r) : JMet l vwCl NsG (.code y_X_fuel prog_1_method_6_code 3 (some .int) :: TsG) y_X_fuel rm_X_fuel [.ref 0, .int p0] (wX s a) (fun v w => v = some (.int r.1) ∧ w = wX r.2.1 r.2.2) := by
  refine J_enter (by decide +kernel) rfl (Nat.le_of_ble_eq_true rfl) ?_
  unfold m_X_fuel at h
  refine J_eq (ls' := [some (.ref 0), some (.int p0), none]) rfl rfl rfl rfl ?_
  refine J_iload_n d_X_fuel_0 rfl ?_
  refine J_if_lt (tgt := 10) d_X_fuel_1 (by decide) (fun c => ?_) (fun c => ?_)
  · have h := j_ifp c h
    refine J_bipush (v := (-2 : Int32)) d_X_fuel_10 (by decide) ?_
    exact J_iret d_X_fuel_12 rfl rfl (by cases h; exact ⟨rfl, rfl⟩)
  · have h := j_ifn c h
    refine J_iload_n d_X_fuel_4 rfl ?_
    refine J_bipush (v := (20 : Int32)) d_X_fuel_5 (by decide) ?_
    refine J_icmp_le (tgt := 13) d_X_fuel_7 (by decide) (fun c => ?_) (fun c => ?_)
    · have h := j_ifp c h
      refine J_aload_n d_X_fuel_13 rfl ?_
      refine J_get (j := 2) (v := .ref 6) d_X_fuel_14 (wX_at0 _ _) rfl in_0 (by decide) ts_1 rfl ?_
      refine J_aload_n d_X_fuel_17 rfl ?_
      refine J_get (j := 5) (v := .int (s 0)) d_X_fuel_18 (wX_at0 _ _) rfl in_0 (by decide) ts_0 rfl ?_
      obtain ⟨v2, e1, h⟩ := jb_some h
      refine J_cVi1 d_X_fuel_21 (c_XK_openPairs l _ _ _ _ e1) (wX_at6 _ _) rfl ts_108 ts_good rfl rfl ts_11 ts_109 dy_XK_openPairs (by decide) (Nat.le_of_ble_eq_true rfl) ts_110 ts_111 ?_
      refine J_istore_n d_X_fuel_24 (by decide) ?_
      refine J_aload_n d_X_fuel_25 rfl ?_
      refine J_get (j := 1) (v := .ref 4) d_X_fuel_26 (wX_at0 _ _) rfl in_0 (by decide) ts_112 rfl ?_
      refine J_iload_n d_X_fuel_29 rfl ?_
      obtain ⟨s4, a5, e3, h⟩ := jb2_some h
      refine J_cVv1 d_X_fuel_30 (c_XR_fillUp l _ _ _ _ e3) (wX_at4 _ _) rfl ts_121 ts_good rfl rfl ts_122 ts_123 dy_XR_fillUp (by decide) (Nat.le_of_ble_eq_true rfl) ts_124 ts_125 ?_
      refine J_aload_n d_X_fuel_33 rfl ?_
      refine J_get (j := 2) (v := .ref 6) d_X_fuel_34 (wX_at0 _ _) rfl in_0 (by decide) ts_1 rfl ?_
      obtain ⟨s7, a8, e6, h⟩ := jb2_some h
      refine J_cVv0 d_X_fuel_37 (c_XK_forgetOpen l _ _ _ e6) (wX_at6 _ _) rfl ts_126 ts_good rfl rfl ts_11 ts_127 dy_XK_forgetOpen (by decide) (Nat.le_of_ble_eq_true rfl) ts_128 ts_129 ?_
      refine J_aload_n d_X_fuel_40 rfl ?_
      refine J_iconst (v := (0 : Int32)) d_X_fuel_41 (by decide) ?_
      refine J_put (j := 8) d_X_fuel_42 (wX_at0 _ _) rfl in_0 ty_X tyok_X nok_X (by decide) ts_28 rfl (tyok_X 8 (by decide)) (by decide) (by decide) (Nat.le_of_ble_eq_true rfl) ?_
      refine J_eq rfl rfl rfl (wX_put3 _ _ _) ?_
      refine J_iload_n d_X_fuel_45 rfl ?_
      exact J_iret d_X_fuel_46 rfl rfl (by cases h; exact ⟨rfl, rfl⟩)
    · have h := j_ifn c h
      refine J_bipush (v := (-2 : Int32)) d_X_fuel_10 (by decide) ?_
      exact J_iret d_X_fuel_12 rfl rfl (by cases h; exact ⟨rfl, rfl⟩)
abbrev rm_XK_of : Room := { frames := 2, cells := 0, slots := 0, locals := 41 }
abbrev K_XK_of (l : Launch) := JW l vwCl NsG TsG "ClassifySort$Knowledge" prog_3_method_3_code 3 (some .int) rm_XK_of
def m_XK_of (s : jS) (a : jB) (p0 : Int32) (p1 : Int32) : Option (Int32) := jg (jin p0 21) (jb (m_X_has ((a 7) (p0).toNatClampNeg) p1) (fun v2 => (if v2 = (0 : Int32) then jg (jin p0 21) (jb (m_X_has ((a 9) (p0).toNatClampNeg) p1) (fun v4 => (if v4 = (0 : Int32) then jg (jin p0 21) (jb (m_X_has ((a 10) (p0).toNatClampNeg) p1) (fun v6 => jb (if v6 = (0 : Int32) then some (3 : Int32) else some (2 : Int32)) (fun b7 => some (b7)))) else some ((0 : Int32))))) else some ((1 : Int32)))))
set_option maxRecDepth 100000 in
set_option maxHeartbeats 4000000 in
theorem c_XK_of (l : Launch) (s : jS) (a : jB) (p0 : Int32) (p1 : Int32) (r : Int32) (h : m_XK_of s a p0 p1 = some r) : JMet l vwCl NsG (.code y_XK_of prog_3_method_3_code 3 (some .int) :: TsG) y_XK_of rm_XK_of [.ref 6, .int p0, .int p1] (wX s a) (fun v w => v = some (.int r) ∧ w = wX s a) := by
  refine J_enter (by decide +kernel) rfl (Nat.le_of_ble_eq_true rfl) ?_
  unfold m_XK_of at h
  refine J_eq (ls' := [some (.ref 6), some (.int p0), some (.int p1)]) rfl rfl rfl rfl ?_
  refine J_aload_n d_XK_of_0 rfl ?_
  refine J_get (j := 0) (v := .ref 7) d_XK_of_1 (wX_at6 _ _) rfl in_3 (by decide) ts_2 rfl ?_
  refine J_iload_n d_XK_of_4 rfl ?_
  obtain ⟨g, h⟩ := jg_some h
  refine J_iald (f := (a 7)) d_XK_of_5 (wX_at7 _ _) (jin_in g) ?_
  refine J_iload_n d_XK_of_6 rfl ?_
  obtain ⟨v2, e1, h⟩ := jb_some h
  refine J_cSi2N d_XK_of_7 (c_X_has l _ _ _ _ e1) ts_8 ts_good rfl rfl ts_4 ns_1 dy_X_has (by decide) (Nat.le_of_ble_eq_true rfl) ts_9 ?_
  refine J_if_eq (tgt := 15) d_XK_of_10 (by decide) (fun c => ?_) (fun c => ?_)
  · have h := j_ifp c h
    refine J_aload_n d_XK_of_15 rfl ?_
    refine J_get (j := 2) (v := .ref 9) d_XK_of_16 (wX_at6 _ _) rfl in_3 (by decide) ts_15 rfl ?_
    refine J_iload_n d_XK_of_19 rfl ?_
    obtain ⟨g, h⟩ := jg_some h
    refine J_iald (f := (a 9)) d_XK_of_20 (wX_at9 _ _) (jin_in g) ?_
    refine J_iload_n d_XK_of_21 rfl ?_
    obtain ⟨v4, e3, h⟩ := jb_some h
    refine J_cSi2N d_XK_of_22 (c_X_has l _ _ _ _ e3) ts_8 ts_good rfl rfl ts_4 ns_1 dy_X_has (by decide) (Nat.le_of_ble_eq_true rfl) ts_9 ?_
    refine J_if_eq (tgt := 30) d_XK_of_25 (by decide) (fun c => ?_) (fun c => ?_)
    · have h := j_ifp c h
      refine J_aload_n d_XK_of_30 rfl ?_
      refine J_get (j := 3) (v := .ref 10) d_XK_of_31 (wX_at6 _ _) rfl in_3 (by decide) ts_19 rfl ?_
      refine J_iload_n d_XK_of_34 rfl ?_
      obtain ⟨g, h⟩ := jg_some h
      refine J_iald (f := (a 10)) d_XK_of_35 (wX_at10 _ _) (jin_in g) ?_
      refine J_iload_n d_XK_of_36 rfl ?_
      obtain ⟨v6, e5, h⟩ := jb_some h
      refine J_cSi2N d_XK_of_37 (c_X_has l _ _ _ _ e5) ts_8 ts_good rfl rfl ts_4 ns_1 dy_X_has (by decide) (Nat.le_of_ble_eq_true rfl) ts_9 ?_
      obtain ⟨b7, hb7, h⟩ := jb_some h
      have kb7 : K_XK_of l 48 [some (.ref 6), some (.int p0), some (.int p1)] [.int b7] (wX s a) (fun v w => v = some (.int r) ∧ w = wX s a) := by
        exact J_iret d_XK_of_48 rfl rfl (by cases h; exact ⟨rfl, rfl⟩)
      clear h
      have h := hb7
      refine J_if_eq (tgt := 47) d_XK_of_40 (by decide) (fun c => ?_) (fun c => ?_)
      · have h := j_ifp c h
        refine J_iconst (v := (3 : Int32)) d_XK_of_47 (by decide) ?_
        cases h
        exact kb7
      · have h := j_ifn c h
        refine J_iconst (v := (2 : Int32)) d_XK_of_43 (by decide) ?_
        refine J_goto (tgt := 48) d_XK_of_44 (by decide) ?_
        cases h
        exact kb7
    · have h := j_ifn c h
      refine J_iconst (v := (0 : Int32)) d_XK_of_28 (by decide) ?_
      exact J_iret d_XK_of_29 rfl rfl (by cases h; exact ⟨rfl, rfl⟩)
  · have h := j_ifn c h
    refine J_iconst (v := (1 : Int32)) d_XK_of_13 (by decide) ?_
    exact J_iret d_XK_of_14 rfl rfl (by cases h; exact ⟨rfl, rfl⟩)
abbrev rm_X_known : Room := { frames := 3, cells := 0, slots := 0, locals := 63 }
abbrev K_X_known (l : Launch) := JW l vwCl NsG TsG "ClassifySort" prog_1_method_7_code 3 (some .int) rm_X_known
def m_X_known (s : jS) (a : jB) (p0 : Int32) (p1 : Int32) : Option (Int32) := jb (m_X_isClass s a p0) (fun v2 => (if v2 = (0 : Int32) then some ((-1 : Int32)) else jb (m_X_isGoal s a p1) (fun v4 => (if v4 = (0 : Int32) then some ((-1 : Int32)) else jb (m_X_slot p1) (fun v6 => jb (m_XK_of s a p0 v6) (fun v8 => some (v8)))))))
set_option maxRecDepth 100000 in
set_option maxHeartbeats 4000000 in
theorem c_X_known (l : Launch) (s : jS) (a : jB) (p0 : Int32) (p1 : Int32) (r : Int32) (h : m_X_known s a p0 p1 = some r) : JMet l vwCl NsG (.code y_X_known prog_1_method_7_code 3 (some .int) :: TsG) y_X_known rm_X_known [.ref 0, .int p0, .int p1] (wX s a) (fun v w => v = some (.int r) ∧ w = wX s a) := by
  refine J_enter (by decide +kernel) rfl (Nat.le_of_ble_eq_true rfl) ?_
  unfold m_X_known at h
  refine J_eq (ls' := [some (.ref 0), some (.int p0), some (.int p1)]) rfl rfl rfl rfl ?_
  refine J_aload_n d_X_known_0 rfl ?_
  refine J_iload_n d_X_known_1 rfl ?_
  obtain ⟨v2, e1, h⟩ := jb_some h
  refine J_cVi1 d_X_known_2 (c_X_isClass l _ _ _ _ e1) (wX_at0 _ _) rfl ts_30 ts_good rfl rfl ts_4 ts_31 dy_X_isClass (by decide) (Nat.le_of_ble_eq_true rfl) ts_32 ts_33 ?_
  refine J_if_eq (tgt := 16) d_X_known_5 (by decide) (fun c => ?_) (fun c => ?_)
  · have h := j_ifp c h
    refine J_iconst (v := (-1 : Int32)) d_X_known_16 (by decide) ?_
    exact J_iret d_X_known_17 rfl rfl (by cases h; exact ⟨rfl, rfl⟩)
  · have h := j_ifn c h
    refine J_aload_n d_X_known_8 rfl ?_
    refine J_iload_n d_X_known_9 rfl ?_
    obtain ⟨v4, e3, h⟩ := jb_some h
    refine J_cVi1 d_X_known_10 (c_X_isGoal l _ _ _ _ e3) (wX_at0 _ _) rfl ts_34 ts_good rfl rfl ts_4 ts_35 dy_X_isGoal (by decide) (Nat.le_of_ble_eq_true rfl) ts_36 ts_37 ?_
    refine J_if_ne (tgt := 18) d_X_known_13 (by decide) (fun c => ?_) (fun c => ?_)
    · have h := j_ifn c h
      refine J_aload_n d_X_known_18 rfl ?_
      refine J_get (j := 2) (v := .ref 6) d_X_known_19 (wX_at0 _ _) rfl in_0 (by decide) ts_1 rfl ?_
      refine J_iload_n d_X_known_22 rfl ?_
      refine J_iload_n d_X_known_23 rfl ?_
      obtain ⟨v6, e5, h⟩ := jb_some h
      refine J_cSi1 d_X_known_24 (c_X_slot l _ _ _ e5) ts_45 ts_good rfl rfl ts_4 ts_46 dy_X_slot (by decide) (Nat.le_of_ble_eq_true rfl) ts_47 ?_
      obtain ⟨v8, e7, h⟩ := jb_some h
      refine J_cVi2 d_X_known_27 (c_XK_of l _ _ _ _ _ e7) (wX_at6 _ _) rfl ts_130 ts_good rfl rfl ts_11 ts_131 dy_XK_of (by decide) (Nat.le_of_ble_eq_true rfl) ts_132 ts_133 ?_
      exact J_iret d_X_known_30 rfl rfl (by cases h; exact ⟨rfl, rfl⟩)
    · have h := j_ifp c h
      refine J_iconst (v := (-1 : Int32)) d_X_known_16 (by decide) ?_
      exact J_iret d_X_known_17 rfl rfl (by cases h; exact ⟨rfl, rfl⟩)
abbrev rm_XA_firstThatFires : Room := { frames := 2, cells := 0, slots := 0, locals := 41 }
abbrev K_XA_firstThatFires (l : Launch) := JW l vwCl NsG TsG "ClassifySort$Axioms" prog_2_method_9_code 4 (some .int) rm_XA_firstThatFires
def L_XA_firstThatFires_2 (s : jS) (a : jB) (c1 : Int32) (k50 : Unit → Option (Int32)) : Nat → Int32 → Option (Int32)
  | 0, _ => none
  | f + 1, x2 => (if (s 4) ≤ x2 then k50 () else jg (jin x2 40) ((if ((a 2) (x2).toNatClampNeg) = (0 : Int32) then L_XA_firstThatFires_2 s a c1 k50 f ((x2 + (1 : Int32))) else (if (((a 2) (x2).toNatClampNeg) &&& (c1 ^^^ (-1 : Int32))) = (0 : Int32) then jg (jin x2 40) (jb (m_X_has c1 ((a 3) (x2).toNatClampNeg)) (fun v2 => (if v2 = (0 : Int32) then some (x2) else L_XA_firstThatFires_2 s a c1 k50 f ((x2 + (1 : Int32)))))) else L_XA_firstThatFires_2 s a c1 k50 f ((x2 + (1 : Int32)))))))
set_option maxRecDepth 100000 in
set_option maxHeartbeats 4000000 in
theorem JL_XA_firstThatFires_2 (l : Launch) (s : jS) (a : jB) (c1 : Int32) (k50 : Unit → Option (Int32)) (r : Int32) (hk50 : ∀ (_ : Unit) (o2 : Option Value) (o3 : Option Value), k50 () = some r → K_XA_firstThatFires l 50 [some (.ref 1), some (.int c1), o2, o3] [] (wX s a) (fun v w => v = some (.int r) ∧ w = wX s a)) : ∀ (f : Nat), ∀ (x2 : Int32) (o3 : Option Value), L_XA_firstThatFires_2 s a c1 k50 f x2 = some r → K_XA_firstThatFires l 2 [some (.ref 1), some (.int c1), some (.int x2), o3] [] (wX s a) (fun v w => v = some (.int r) ∧ w = wX s a) := by
  intro f
  induction f with
  | zero =>
    intro x2 o3 h
    cases h
  | succ f ih =>
    intro x2 o3 h
    rw [L_XA_firstThatFires_2] at h
    refine J_iload_n d_XA_firstThatFires_2 rfl ?_
    refine J_aload_n d_XA_firstThatFires_3 rfl ?_
    refine J_get (j := 2) (v := .int (s 4)) d_XA_firstThatFires_4 (wX_at1 _ _) rfl in_1 (by decide) ts_39 rfl ?_
    refine J_icmp_ge (tgt := 50) d_XA_firstThatFires_7 (by decide) (fun c => ?_) (fun c => ?_)
    · have h := j_ifp c h
      exact hk50 () _ _ h
    · have h := j_ifn c h
      refine J_aload_n d_XA_firstThatFires_10 rfl ?_
      refine J_get (j := 0) (v := .ref 2) d_XA_firstThatFires_11 (wX_at1 _ _) rfl in_1 (by decide) ts_49 rfl ?_
      refine J_iload_n d_XA_firstThatFires_14 rfl ?_
      obtain ⟨g, h⟩ := jg_some h
      refine J_iald (f := (a 2)) d_XA_firstThatFires_15 (wX_at2 _ _) (jin_in g) ?_
      refine J_istore_n d_XA_firstThatFires_16 (by decide) ?_
      refine J_iload_n d_XA_firstThatFires_17 rfl ?_
      refine J_if_eq (tgt := 44) d_XA_firstThatFires_18 (by decide) (fun c => ?_) (fun c => ?_)
      · have h := j_ifp c h
        refine J_iinc (v := (x2 + (1 : Int32))) d_XA_firstThatFires_44 rfl (by first | rfl | decide) (by decide) ?_
        refine J_goto (tgt := 2) d_XA_firstThatFires_47 (by decide) ?_
        exact ih _ _ h
      · have h := j_ifn c h
        refine J_iload_n d_XA_firstThatFires_21 rfl ?_
        refine J_iload_n d_XA_firstThatFires_22 rfl ?_
        refine J_iconst (v := (-1 : Int32)) d_XA_firstThatFires_23 (by decide) ?_
        refine J_ixor d_XA_firstThatFires_24 ?_
        refine J_iand d_XA_firstThatFires_25 ?_
        refine J_if_ne (tgt := 44) d_XA_firstThatFires_26 (by decide) (fun c => ?_) (fun c => ?_)
        · have h := j_ifn c h
          refine J_iinc (v := (x2 + (1 : Int32))) d_XA_firstThatFires_44 rfl (by first | rfl | decide) (by decide) ?_
          refine J_goto (tgt := 2) d_XA_firstThatFires_47 (by decide) ?_
          exact ih _ _ h
        · have h := j_ifp c h
          refine J_iload_n d_XA_firstThatFires_29 rfl ?_
          refine J_aload_n d_XA_firstThatFires_30 rfl ?_
          refine J_get (j := 1) (v := .ref 3) d_XA_firstThatFires_31 (wX_at1 _ _) rfl in_1 (by decide) ts_50 rfl ?_
          refine J_iload_n d_XA_firstThatFires_34 rfl ?_
          obtain ⟨g, h⟩ := jg_some h
          refine J_iald (f := (a 3)) d_XA_firstThatFires_35 (wX_at3 _ _) (jin_in g) ?_
          obtain ⟨v2, e1, h⟩ := jb_some h
          refine J_cSi2N d_XA_firstThatFires_36 (c_X_has l _ _ _ _ e1) ts_8 ts_good rfl rfl ts_4 ns_4 dy_X_has (by decide) (Nat.le_of_ble_eq_true rfl) ts_9 ?_
          refine J_if_ne (tgt := 44) d_XA_firstThatFires_39 (by decide) (fun c => ?_) (fun c => ?_)
          · have h := j_ifn c h
            refine J_iinc (v := (x2 + (1 : Int32))) d_XA_firstThatFires_44 rfl (by first | rfl | decide) (by decide) ?_
            refine J_goto (tgt := 2) d_XA_firstThatFires_47 (by decide) ?_
            exact ih _ _ h
          · have h := j_ifp c h
            refine J_iload_n d_XA_firstThatFires_42 rfl ?_
            exact J_iret d_XA_firstThatFires_43 rfl rfl (by cases h; exact ⟨rfl, rfl⟩)
def m_XA_firstThatFires (s : jS) (a : jB) (p0 : Int32) : Option (Int32) := L_XA_firstThatFires_2 (s) (a) (p0) (fun _ => some ((-6 : Int32))) jF ((0 : Int32))
set_option maxRecDepth 100000 in
set_option maxHeartbeats 4000000 in
theorem c_XA_firstThatFires (l : Launch) (s : jS) (a : jB) (p0 : Int32) (r : Int32) (h : m_XA_firstThatFires s a p0 = some r) : JMet l vwCl NsG (.code y_XA_firstThatFires prog_2_method_9_code 4 (some .int) :: TsG) y_XA_firstThatFires rm_XA_firstThatFires [.ref 1, .int p0] (wX s a) (fun v w => v = some (.int r) ∧ w = wX s a) := by
  refine J_enter (by decide +kernel) rfl (Nat.le_of_ble_eq_true rfl) ?_
  unfold m_XA_firstThatFires at h
  refine J_eq (ls' := [some (.ref 1), some (.int p0), none, none]) rfl rfl rfl rfl ?_
  refine J_iconst (v := (0 : Int32)) d_XA_firstThatFires_0 (by decide) ?_
  refine J_istore_n d_XA_firstThatFires_1 (by decide) ?_
  refine JL_XA_firstThatFires_2 l _ _ _ _ r (fun _ o3 o4 h => ?_) jF _ _ h
  refine J_bipush (v := (-6 : Int32)) d_XA_firstThatFires_50 (by decide) ?_
  exact J_iret d_XA_firstThatFires_52 rfl rfl (by cases h; exact ⟨rfl, rfl⟩)
abbrev rm_XR_decide : Room := { frames := 3, cells := 0, slots := 0, locals := 64 }
abbrev K_XR_decide (l : Launch) := JW l vwCl NsG TsG "ClassifySort$Reasoner" prog_5_method_5_code 6 (some .int) rm_XR_decide
def L_XR_decide_24 (c3 : Int32) (k125 : jS → jB → Option (Int32 × jS × jB)) : Nat → jS → jB → Int32 → Option (Int32 × jS × jB)
  | 0, _, _, _ => none
  | f + 1, s, a, x4 => (if (20 : Int32) < x4 then k125 (s) (a) else (if ((s 8) &&& c3) = (0 : Int32) then jb (m_XA_firstThatFires s a (s 8)) (fun v6 => (if v6 = (-6 : Int32) then some ((0 : Int32), s, a) else (if (s 7) < (s 6) then jg (jin (s 7) 20) (jb (m_XA_rightOf (upd s 7 ((s 7) + (1 : Int32))) (va_up a 5 (upd (a 5) ((s 7)).toNatClampNeg v6)) v6) (fun v8 => jb (m_X_bit v8) (fun v10 => L_XR_decide_24 c3 k125 f ((upd (upd s 7 ((s 7) + (1 : Int32))) 8 (((upd s 7 ((s 7) + (1 : Int32))) 8) ||| v10))) ((va_up a 5 (upd (a 5) ((s 7)).toNatClampNeg v6))) ((x4 + (1 : Int32)))))) else some ((2 : Int32), s, a)))) else some ((1 : Int32), s, a)))
set_option maxRecDepth 100000 in
set_option maxHeartbeats 4000000 in
theorem JL_XR_decide_24 (l : Launch) (c3 : Int32) (k125 : jS → jB → Option (Int32 × jS × jB)) (r : Int32 × jS × jB) (hk125 : ∀ (s : jS) (a : jB) (o1 : Option Value) (o2 : Option Value) (o4 : Option Value) (o5 : Option Value), k125 s a = some r → K_XR_decide l 125 [some (.ref 4), o1, o2, some (.int c3), o4, o5] [] (wX s a) (fun v w => v = some (.int r.1) ∧ w = wX r.2.1 r.2.2)) : ∀ (f : Nat), ∀ (s : jS) (a : jB) (x4 : Int32) (o1 : Option Value) (o2 : Option Value) (o5 : Option Value), L_XR_decide_24 c3 k125 f s a x4 = some r → K_XR_decide l 24 [some (.ref 4), o1, o2, some (.int c3), some (.int x4), o5] [] (wX s a) (fun v w => v = some (.int r.1) ∧ w = wX r.2.1 r.2.2) := by
  intro f
  induction f with
  | zero =>
    intro s a x4 o1 o2 o5 h
    cases h
  | succ f ih =>
    intro s a x4 o1 o2 o5 h
    rw [L_XR_decide_24] at h
    refine J_iload d_XR_decide_24 rfl ?_
    refine J_bipush (v := (20 : Int32)) d_XR_decide_26 (by decide) ?_
    refine J_icmp_gt (tgt := 125) d_XR_decide_28 (by decide) (fun c => ?_) (fun c => ?_)
    · have h := j_ifp c h
      exact hk125 _ _ _ _ _ _ h
    · have h := j_ifn c h
      refine J_aload_n d_XR_decide_31 rfl ?_
      refine J_get (j := 4) (v := .int (s 8)) d_XR_decide_32 (wX_at4 _ _) rfl in_2 (by decide) ts_134 rfl ?_
      refine J_iload_n d_XR_decide_35 rfl ?_
      refine J_iand d_XR_decide_36 ?_
      refine J_if_eq (tgt := 42) d_XR_decide_37 (by decide) (fun c => ?_) (fun c => ?_)
      · have h := j_ifp c h
        refine J_aload_n d_XR_decide_42 rfl ?_
        refine J_get (j := 0) (v := .ref 1) d_XR_decide_43 (wX_at4 _ _) rfl in_2 (by decide) ts_136 rfl ?_
        refine J_aload_n d_XR_decide_46 rfl ?_
        refine J_get (j := 4) (v := .int (s 8)) d_XR_decide_47 (wX_at4 _ _) rfl in_2 (by decide) ts_134 rfl ?_
        obtain ⟨v6, e5, h⟩ := jb_some h
        refine J_cVi1 d_XR_decide_50 (c_XA_firstThatFires l _ _ _ _ e5) (wX_at1 _ _) rfl ts_137 ts_good rfl rfl ts_41 ts_138 dy_XA_firstThatFires (by decide) (Nat.le_of_ble_eq_true rfl) ts_139 ts_140 ?_
        refine J_istore d_XR_decide_53 (by decide) ?_
        refine J_iload d_XR_decide_55 rfl ?_
        refine J_bipush (v := (-6 : Int32)) d_XR_decide_57 (by decide) ?_
        refine J_icmp_ne (tgt := 64) d_XR_decide_59 (by decide) (fun c => ?_) (fun c => ?_)
        · have h := j_ifn c h
          refine J_aload_n d_XR_decide_64 rfl ?_
          refine J_get (j := 3) (v := .int (s 7)) d_XR_decide_65 (wX_at4 _ _) rfl in_2 (by decide) ts_135 rfl ?_
          refine J_aload_n d_XR_decide_68 rfl ?_
          refine J_get (j := 2) (v := .int (s 6)) d_XR_decide_69 (wX_at4 _ _) rfl in_2 (by decide) ts_120 rfl ?_
          refine J_icmp_lt (tgt := 77) d_XR_decide_72 (by decide) (fun c => ?_) (fun c => ?_)
          · have h := j_ifp c h
            refine J_aload_n d_XR_decide_77 rfl ?_
            refine J_get (j := 1) (v := .ref 5) d_XR_decide_78 (wX_at4 _ _) rfl in_2 (by decide) ts_141 rfl ?_
            refine J_aload_n d_XR_decide_81 rfl ?_
            refine J_get (j := 3) (v := .int (s 7)) d_XR_decide_82 (wX_at4 _ _) rfl in_2 (by decide) ts_135 rfl ?_
            refine J_iload d_XR_decide_85 rfl ?_
            obtain ⟨g, h⟩ := jg_some h
            refine J_iast (f := (a 5)) d_XR_decide_87 (wX_at5 _ _) (jin_in g) ?_
            refine J_eq (ws' := wX s (va_up a 5 (upd (a 5) ((s 7)).toNatClampNeg v6))) rfl rfl rfl (wX_ast5 _ _ _) ?_
            refine J_aload_n d_XR_decide_88 rfl ?_
            refine J_dup d_XR_decide_89 rfl ?_
            refine J_get (j := 3) (v := .int (s 7)) d_XR_decide_90 (wX_at4 _ _) rfl in_2 (by decide) ts_135 rfl ?_
            refine J_iconst (v := (1 : Int32)) d_XR_decide_93 (by decide) ?_
            refine J_iadd d_XR_decide_94 ?_
            refine J_put (j := 3) d_XR_decide_95 (wX_at4 _ _) rfl in_2 ty_XR tyok_XR nok_XR (by decide) ts_135 rfl (tyok_XR 3 (by decide)) rfl rfl (Nat.le_of_ble_eq_true rfl) ?_
            refine J_eq rfl rfl rfl (wX_put7 _ _ _) ?_
            refine J_aload_n d_XR_decide_98 rfl ?_
            refine J_dup d_XR_decide_99 rfl ?_
            refine J_get (j := 4) (v := .int ((upd s 7 ((s 7) + (1 : Int32))) 8)) d_XR_decide_100 (wX_at4 _ _) rfl in_2 (by decide) ts_134 rfl ?_
            refine J_aload_n d_XR_decide_103 rfl ?_
            refine J_get (j := 0) (v := .ref 1) d_XR_decide_104 (wX_at4 _ _) rfl in_2 (by decide) ts_136 rfl ?_
            refine J_iload d_XR_decide_107 rfl ?_
            obtain ⟨v8, e7, h⟩ := jb_some h
            refine J_cVi1 d_XR_decide_109 (c_XA_rightOf l _ _ _ _ e7) (wX_at1 _ _) rfl ts_80 ts_good rfl rfl ts_41 ts_142 dy_XA_rightOf (by decide) (Nat.le_of_ble_eq_true rfl) ts_82 ts_83 ?_
            obtain ⟨v10, e9, h⟩ := jb_some h
            refine J_cSi1N d_XR_decide_112 (c_X_bit l _ _ _ e9) ts_3 ts_good rfl rfl ts_4 ns_3 dy_X_bit (by decide) (Nat.le_of_ble_eq_true rfl) ts_5 ?_
            refine J_ior d_XR_decide_115 ?_
            refine J_put (j := 4) d_XR_decide_116 (wX_at4 _ _) rfl in_2 ty_XR tyok_XR nok_XR (by decide) ts_134 rfl (tyok_XR 4 (by decide)) rfl rfl (Nat.le_of_ble_eq_true rfl) ?_
            refine J_eq rfl rfl rfl (wX_put8 _ _ _) ?_
            refine J_iinc (v := (x4 + (1 : Int32))) d_XR_decide_119 rfl (by first | rfl | decide) (by decide) ?_
            refine J_goto (tgt := 24) d_XR_decide_122 (by decide) ?_
            exact ih _ _ _ _ _ _ h
          · have h := j_ifn c h
            refine J_iconst (v := (2 : Int32)) d_XR_decide_75 (by decide) ?_
            exact J_iret d_XR_decide_76 rfl rfl (by cases h; exact ⟨rfl, rfl⟩)
        · have h := j_ifp c h
          refine J_iconst (v := (0 : Int32)) d_XR_decide_62 (by decide) ?_
          exact J_iret d_XR_decide_63 rfl rfl (by cases h; exact ⟨rfl, rfl⟩)
      · have h := j_ifn c h
        refine J_iconst (v := (1 : Int32)) d_XR_decide_40 (by decide) ?_
        exact J_iret d_XR_decide_41 rfl rfl (by cases h; exact ⟨rfl, rfl⟩)
def m_XR_decide (s : jS) (a : jB) (p0 : Int32) (p1 : Int32) : Option (Int32 × jS × jB) := jb (m_X_bit p1) (fun v2 => jb (m_X_bit (20 : Int32)) (fun v4 => L_XR_decide_24 ((v2 ||| v4)) (fun s11 a12 => some ((2 : Int32), s11, a12)) jF ((upd (upd s 8 p0) 7 (0 : Int32))) (a) ((0 : Int32))))
set_option maxRecDepth 100000 in
set_option maxHeartbeats 4000000 in
theorem c_XR_decide (l : Launch) (s : jS) (a : jB) (p0 : Int32) (p1 : Int32) (r : Int32 × jS × jB) (h : m_XR_decide s a p0 p1 = some r) : JMet l vwCl NsG (.code y_XR_decide prog_5_method_5_code 6 (some .int) :: TsG) y_XR_decide rm_XR_decide [.ref 4, .int p0, .int p1] (wX s a) (fun v w => v = some (.int r.1) ∧ w = wX r.2.1 r.2.2) := by
  refine J_enter (by decide +kernel) rfl (Nat.le_of_ble_eq_true rfl) ?_
  unfold m_XR_decide at h
  refine J_eq (ls' := [some (.ref 4), some (.int p0), some (.int p1), none, none, none]) rfl rfl rfl rfl ?_
  refine J_iload_n d_XR_decide_0 rfl ?_
  obtain ⟨v2, e1, h⟩ := jb_some h
  refine J_cSi1N d_XR_decide_1 (c_X_bit l _ _ _ e1) ts_3 ts_good rfl rfl ts_4 ns_3 dy_X_bit (by decide) (Nat.le_of_ble_eq_true rfl) ts_5 ?_
  refine J_bipush (v := (20 : Int32)) d_XR_decide_4 (by decide) ?_
  obtain ⟨v4, e3, h⟩ := jb_some h
  refine J_cSi1N d_XR_decide_6 (c_X_bit l _ _ _ e3) ts_3 ts_good rfl rfl ts_4 ns_3 dy_X_bit (by decide) (Nat.le_of_ble_eq_true rfl) ts_5 ?_
  refine J_ior d_XR_decide_9 ?_
  refine J_istore_n d_XR_decide_10 (by decide) ?_
  refine J_aload_n d_XR_decide_11 rfl ?_
  refine J_iload_n d_XR_decide_12 rfl ?_
  refine J_put (j := 4) d_XR_decide_13 (wX_at4 _ _) rfl in_2 ty_XR tyok_XR nok_XR (by decide) ts_134 rfl (tyok_XR 4 (by decide)) rfl rfl (Nat.le_of_ble_eq_true rfl) ?_
  refine J_eq rfl rfl rfl (wX_put8 _ _ _) ?_
  refine J_aload_n d_XR_decide_16 rfl ?_
  refine J_iconst (v := (0 : Int32)) d_XR_decide_17 (by decide) ?_
  refine J_put (j := 3) d_XR_decide_18 (wX_at4 _ _) rfl in_2 ty_XR tyok_XR nok_XR (by decide) ts_135 rfl (tyok_XR 3 (by decide)) rfl rfl (Nat.le_of_ble_eq_true rfl) ?_
  refine J_eq rfl rfl rfl (wX_put7 _ _ _) ?_
  refine J_iconst (v := (0 : Int32)) d_XR_decide_21 (by decide) ?_
  refine J_istore d_XR_decide_22 (by decide) ?_
  refine JL_XR_decide_24 l _ _ r (fun s11 a12 o13 o14 o15 o16 h => ?_) jF _ _ _ _ _ _ h
  refine J_iconst (v := (2 : Int32)) d_XR_decide_125 (by decide) ?_
  exact J_iret d_XR_decide_126 rfl rfl (by cases h; exact ⟨rfl, rfl⟩)
abbrev rm_X_ask : Room := { frames := 4, cells := 0, slots := 0, locals := 89 }
abbrev K_X_ask (l : Launch) := JW l vwCl NsG TsG "ClassifySort" prog_1_method_8_code 3 (some .int) rm_X_ask
def m_X_ask (s : jS) (a : jB) (p0 : Int32) (p1 : Int32) : Option (Int32 × jS × jB) := jb (m_X_isClass s a p0) (fun v2 => (if v2 = (0 : Int32) then some ((-1 : Int32), s, a) else jb (m_X_isGoal s a p1) (fun v4 => (if v4 = (0 : Int32) then some ((-1 : Int32), s, a) else jb (m_X_bit p0) (fun v6 => jb (m_X_slot p1) (fun v8 => jb3 (m_XR_decide s a v6 v8) (fun v12 s10 a11 => some (v12, s10, a11))))))))
set_option maxRecDepth 100000 in
set_option maxHeartbeats 4000000 in
theorem c_X_ask (l : Launch) (s : jS) (a : jB) (p0 : Int32) (p1 : Int32) (r : Int32 × jS × jB) (h : m_X_ask s a p0 p1 = some r) : JMet l vwCl NsG (.code y_X_ask prog_1_method_8_code 3 (some .int) :: TsG) y_X_ask rm_X_ask [.ref 0, .int p0, .int p1] (wX s a) (fun v w => v = some (.int r.1) ∧ w = wX r.2.1 r.2.2) := by
  refine J_enter (by decide +kernel) rfl (Nat.le_of_ble_eq_true rfl) ?_
  unfold m_X_ask at h
  refine J_eq (ls' := [some (.ref 0), some (.int p0), some (.int p1)]) rfl rfl rfl rfl ?_
  refine J_aload_n d_X_ask_0 rfl ?_
  refine J_iload_n d_X_ask_1 rfl ?_
  obtain ⟨v2, e1, h⟩ := jb_some h
  refine J_cVi1 d_X_ask_2 (c_X_isClass l _ _ _ _ e1) (wX_at0 _ _) rfl ts_30 ts_good rfl rfl ts_4 ts_31 dy_X_isClass (by decide) (Nat.le_of_ble_eq_true rfl) ts_32 ts_33 ?_
  refine J_if_eq (tgt := 16) d_X_ask_5 (by decide) (fun c => ?_) (fun c => ?_)
  · have h := j_ifp c h
    refine J_iconst (v := (-1 : Int32)) d_X_ask_16 (by decide) ?_
    exact J_iret d_X_ask_17 rfl rfl (by cases h; exact ⟨rfl, rfl⟩)
  · have h := j_ifn c h
    refine J_aload_n d_X_ask_8 rfl ?_
    refine J_iload_n d_X_ask_9 rfl ?_
    obtain ⟨v4, e3, h⟩ := jb_some h
    refine J_cVi1 d_X_ask_10 (c_X_isGoal l _ _ _ _ e3) (wX_at0 _ _) rfl ts_34 ts_good rfl rfl ts_4 ts_35 dy_X_isGoal (by decide) (Nat.le_of_ble_eq_true rfl) ts_36 ts_37 ?_
    refine J_if_ne (tgt := 18) d_X_ask_13 (by decide) (fun c => ?_) (fun c => ?_)
    · have h := j_ifn c h
      refine J_aload_n d_X_ask_18 rfl ?_
      refine J_get (j := 1) (v := .ref 4) d_X_ask_19 (wX_at0 _ _) rfl in_0 (by decide) ts_112 rfl ?_
      refine J_iload_n d_X_ask_22 rfl ?_
      obtain ⟨v6, e5, h⟩ := jb_some h
      refine J_cSi1 d_X_ask_23 (c_X_bit l _ _ _ e5) ts_3 ts_good rfl rfl ts_4 ts_7 dy_X_bit (by decide) (Nat.le_of_ble_eq_true rfl) ts_5 ?_
      refine J_iload_n d_X_ask_26 rfl ?_
      obtain ⟨v8, e7, h⟩ := jb_some h
      refine J_cSi1 d_X_ask_27 (c_X_slot l _ _ _ e7) ts_45 ts_good rfl rfl ts_4 ts_46 dy_X_slot (by decide) (Nat.le_of_ble_eq_true rfl) ts_47 ?_
      obtain ⟨v12, s10, a11, e9, h⟩ := jb3_some h
      refine J_cVi2 d_X_ask_30 (c_XR_decide l _ _ _ _ _ e9) (wX_at4 _ _) rfl ts_143 ts_good rfl rfl ts_122 ts_144 dy_XR_decide (by decide) (Nat.le_of_ble_eq_true rfl) ts_145 ts_146 ?_
      exact J_iret d_X_ask_33 rfl rfl (by cases h; exact ⟨rfl, rfl⟩)
    · have h := j_ifp c h
      refine J_iconst (v := (-1 : Int32)) d_X_ask_16 (by decide) ?_
      exact J_iret d_X_ask_17 rfl rfl (by cases h; exact ⟨rfl, rfl⟩)
abbrev rm_XK_learn : Room := { frames := 4, cells := 0, slots := 0, locals := 86 }
abbrev K_XK_learn (l : Launch) := JW l vwCl NsG TsG "ClassifySort$Knowledge" prog_3_method_10_code 4 none rm_XK_learn
def m_XK_learn (s : jS) (a : jB) (p0 : Int32) (p1 : Int32) (p2 : Int32) : Option (jS × jB) := (if p2 = (1 : Int32) then jb2 (m_XK_tellYes s a p0 p1) (fun s12 a13 => jb2 (m_XK_close s12 a13) (fun s15 a16 => some (s15, a16))) else (if p2 = (0 : Int32) then jg (jin p0 21) (jb (m_X_bit p1) (fun v7 => jg (jin p0 21) (jb2 (m_XK_close s (va_up a 9 (upd (a 9) (p0).toNatClampNeg (((a 9) (p0).toNatClampNeg) ||| v7)))) (fun s9 a10 => some (s9, a10))))) else jg (jin p0 21) (jb (m_X_bit p1) (fun v2 => jg (jin p0 21) (jb2 (m_XK_close s (va_up a 10 (upd (a 10) (p0).toNatClampNeg (((a 10) (p0).toNatClampNeg) ||| v2)))) (fun s4 a5 => some (s4, a5)))))))
set_option maxRecDepth 100000 in
set_option maxHeartbeats 4000000 in
theorem c_XK_learn (l : Launch) (s : jS) (a : jB) (p0 : Int32) (p1 : Int32) (p2 : Int32) (r : jS × jB) (h : m_XK_learn s a p0 p1 p2 = some r) : JMet l vwCl NsG (.code y_XK_learn prog_3_method_10_code 4 none :: TsG) y_XK_learn rm_XK_learn [.ref 6, .int p0, .int p1, .int p2] (wX s a) (fun v w => v = none ∧ w = wX r.1 r.2) := by
  refine J_enter (by decide +kernel) rfl (Nat.le_of_ble_eq_true rfl) ?_
  unfold m_XK_learn at h
  refine J_eq (ls' := [some (.ref 6), some (.int p0), some (.int p1), some (.int p2)]) rfl rfl rfl rfl ?_
  refine J_iload_n d_XK_learn_0 rfl ?_
  refine J_iconst (v := (1 : Int32)) d_XK_learn_1 (by decide) ?_
  refine J_icmp_ne (tgt := 14) d_XK_learn_2 (by decide) (fun c => ?_) (fun c => ?_)
  · have h := j_ifn c h
    refine J_iload_n d_XK_learn_14 rfl ?_
    refine J_if_ne (tgt := 34) d_XK_learn_15 (by decide) (fun c => ?_) (fun c => ?_)
    · have h := j_ifn c h
      refine J_aload_n d_XK_learn_34 rfl ?_
      refine J_get (j := 3) (v := .ref 10) d_XK_learn_35 (wX_at6 _ _) rfl in_3 (by decide) ts_19 rfl ?_
      refine J_iload_n d_XK_learn_38 rfl ?_
      refine J_dup2 d_XK_learn_39 rfl rfl ?_
      obtain ⟨g, h⟩ := jg_some h
      refine J_iald (f := (a 10)) d_XK_learn_40 (wX_at10 _ _) (jin_in g) ?_
      refine J_iload_n d_XK_learn_41 rfl ?_
      obtain ⟨v2, e1, h⟩ := jb_some h
      refine J_cSi1N d_XK_learn_42 (c_X_bit l _ _ _ e1) ts_3 ts_good rfl rfl ts_4 ns_0 dy_X_bit (by decide) (Nat.le_of_ble_eq_true rfl) ts_5 ?_
      refine J_ior d_XK_learn_45 ?_
      obtain ⟨g, h⟩ := jg_some h
      refine J_iast (f := (a 10)) d_XK_learn_46 (wX_at10 _ _) (jin_in g) ?_
      refine J_eq (ws' := wX s (va_up a 10 (upd (a 10) (p0).toNatClampNeg (((a 10) (p0).toNatClampNeg) ||| v2)))) rfl rfl rfl (wX_ast10 _ _ _) ?_
      refine J_aload_n d_XK_learn_47 rfl ?_
      obtain ⟨s4, a5, e3, h⟩ := jb2_some h
      refine J_cVv0 d_XK_learn_48 (c_XK_close l _ _ _ e3) (wX_at6 _ _) rfl ts_20 ts_good rfl rfl ts_11 ts_21 dy_XK_close (by decide) (Nat.le_of_ble_eq_true rfl) ts_22 ts_23 ?_
      exact J_vret d_XK_learn_51 rfl (by cases h; exact ⟨rfl, rfl⟩)
    · have h := j_ifp c h
      refine J_aload_n d_XK_learn_18 rfl ?_
      refine J_get (j := 2) (v := .ref 9) d_XK_learn_19 (wX_at6 _ _) rfl in_3 (by decide) ts_15 rfl ?_
      refine J_iload_n d_XK_learn_22 rfl ?_
      refine J_dup2 d_XK_learn_23 rfl rfl ?_
      obtain ⟨g, h⟩ := jg_some h
      refine J_iald (f := (a 9)) d_XK_learn_24 (wX_at9 _ _) (jin_in g) ?_
      refine J_iload_n d_XK_learn_25 rfl ?_
      obtain ⟨v7, e6, h⟩ := jb_some h
      refine J_cSi1N d_XK_learn_26 (c_X_bit l _ _ _ e6) ts_3 ts_good rfl rfl ts_4 ns_0 dy_X_bit (by decide) (Nat.le_of_ble_eq_true rfl) ts_5 ?_
      refine J_ior d_XK_learn_29 ?_
      obtain ⟨g, h⟩ := jg_some h
      refine J_iast (f := (a 9)) d_XK_learn_30 (wX_at9 _ _) (jin_in g) ?_
      refine J_eq (ws' := wX s (va_up a 9 (upd (a 9) (p0).toNatClampNeg (((a 9) (p0).toNatClampNeg) ||| v7)))) rfl rfl rfl (wX_ast9 _ _ _) ?_
      refine J_goto (tgt := 47) d_XK_learn_31 (by decide) ?_
      refine J_aload_n d_XK_learn_47 rfl ?_
      obtain ⟨s9, a10, e8, h⟩ := jb2_some h
      refine J_cVv0 d_XK_learn_48 (c_XK_close l _ _ _ e8) (wX_at6 _ _) rfl ts_20 ts_good rfl rfl ts_11 ts_21 dy_XK_close (by decide) (Nat.le_of_ble_eq_true rfl) ts_22 ts_23 ?_
      exact J_vret d_XK_learn_51 rfl (by cases h; exact ⟨rfl, rfl⟩)
  · have h := j_ifp c h
    refine J_aload_n d_XK_learn_5 rfl ?_
    refine J_iload_n d_XK_learn_6 rfl ?_
    refine J_iload_n d_XK_learn_7 rfl ?_
    obtain ⟨s12, a13, e11, h⟩ := jb2_some h
    refine J_cVv2 d_XK_learn_8 (c_XK_tellYes l _ _ _ _ _ e11) (wX_at6 _ _) rfl ts_10 ts_good rfl rfl ts_11 ts_12 dy_XK_tellYes (by decide) (Nat.le_of_ble_eq_true rfl) ts_13 ts_14 ?_
    refine J_goto (tgt := 47) d_XK_learn_11 (by decide) ?_
    refine J_aload_n d_XK_learn_47 rfl ?_
    obtain ⟨s15, a16, e14, h⟩ := jb2_some h
    refine J_cVv0 d_XK_learn_48 (c_XK_close l _ _ _ e14) (wX_at6 _ _) rfl ts_20 ts_good rfl rfl ts_11 ts_21 dy_XK_close (by decide) (Nat.le_of_ble_eq_true rfl) ts_22 ts_23 ?_
    exact J_vret d_XK_learn_51 rfl (by cases h; exact ⟨rfl, rfl⟩)
abbrev rm_XO_answer : Room := { frames := 5, cells := 0, slots := 0, locals := 109 }
abbrev K_XO_answer (l : Launch) := JW l vwCl NsG TsG "ClassifySort$Order" prog_4_method_6_code 3 (some .int) rm_XO_answer
def m_XO_answer (s : jS) (a : jB) (p0 : Int32) (p1 : Int32) : Option (Int32 × jS × jB) := jb (m_XK_of s a p0 p1) (fun v2 => (if v2 = (3 : Int32) then jb (m_X_bit p0) (fun v6 => jb3 (m_XR_decide (upd s 11 ((s 11) + (1 : Int32))) a v6 p1) (fun v10 s8 a9 => jb2 (m_XK_learn s8 a9 p0 p1 v10) (fun s12 a13 => jb (m_XK_of s12 a13 p0 p1) (fun v15 => some (v15, s12, a13))))) else jb (m_XK_of s a p0 p1) (fun v4 => some (v4, s, a))))
set_option maxRecDepth 100000 in
set_option maxHeartbeats 4000000 in
theorem c_XO_answer (l : Launch) (s : jS) (a : jB) (p0 : Int32) (p1 : Int32) (r : Int32 × jS × jB) (h : m_XO_answer s a p0 p1 = some r) : JMet l vwCl NsG (.code y_XO_answer prog_4_method_6_code 3 (some .int) :: TsG) y_XO_answer rm_XO_answer [.ref 11, .int p0, .int p1] (wX s a) (fun v w => v = some (.int r.1) ∧ w = wX r.2.1 r.2.2) := by
  refine J_enter (by decide +kernel) rfl (Nat.le_of_ble_eq_true rfl) ?_
  unfold m_XO_answer at h
  refine J_eq (ls' := [some (.ref 11), some (.int p0), some (.int p1)]) rfl rfl rfl rfl ?_
  refine J_aload_n d_XO_answer_0 rfl ?_
  refine J_get (j := 0) (v := .ref 6) d_XO_answer_1 (wX_at11 _ _) rfl in_4 (by decide) ts_151 rfl ?_
  refine J_iload_n d_XO_answer_4 rfl ?_
  refine J_iload_n d_XO_answer_5 rfl ?_
  obtain ⟨v2, e1, h⟩ := jb_some h
  refine J_cVi2 d_XO_answer_6 (c_XK_of l _ _ _ _ _ e1) (wX_at6 _ _) rfl ts_130 ts_good rfl rfl ts_11 ts_152 dy_XK_of (by decide) (Nat.le_of_ble_eq_true rfl) ts_132 ts_133 ?_
  refine J_iconst (v := (3 : Int32)) d_XO_answer_9 (by decide) ?_
  refine J_icmp_ne (tgt := 44) d_XO_answer_10 (by decide) (fun c => ?_) (fun c => ?_)
  · have h := j_ifn c h
    refine J_aload_n d_XO_answer_44 rfl ?_
    refine J_get (j := 0) (v := .ref 6) d_XO_answer_45 (wX_at11 _ _) rfl in_4 (by decide) ts_151 rfl ?_
    refine J_iload_n d_XO_answer_48 rfl ?_
    refine J_iload_n d_XO_answer_49 rfl ?_
    obtain ⟨v4, e3, h⟩ := jb_some h
    refine J_cVi2 d_XO_answer_50 (c_XK_of l _ _ _ _ _ e3) (wX_at6 _ _) rfl ts_130 ts_good rfl rfl ts_11 ts_152 dy_XK_of (by decide) (Nat.le_of_ble_eq_true rfl) ts_132 ts_133 ?_
    exact J_iret d_XO_answer_53 rfl rfl (by cases h; exact ⟨rfl, rfl⟩)
  · have h := j_ifp c h
    refine J_aload_n d_XO_answer_13 rfl ?_
    refine J_dup d_XO_answer_14 rfl ?_
    refine J_get (j := 4) (v := .int (s 11)) d_XO_answer_15 (wX_at11 _ _) rfl in_4 (by decide) ts_150 rfl ?_
    refine J_iconst (v := (1 : Int32)) d_XO_answer_18 (by decide) ?_
    refine J_iadd d_XO_answer_19 ?_
    refine J_put (j := 4) d_XO_answer_20 (wX_at11 _ _) rfl in_4 ty_XO tyok_XO nok_XO (by decide) ts_150 rfl (tyok_XO 4 (by decide)) rfl rfl (Nat.le_of_ble_eq_true rfl) ?_
    refine J_eq rfl rfl rfl (wX_put11 _ _ _) ?_
    refine J_aload_n d_XO_answer_23 rfl ?_
    refine J_get (j := 0) (v := .ref 6) d_XO_answer_24 (wX_at11 _ _) rfl in_4 (by decide) ts_151 rfl ?_
    refine J_iload_n d_XO_answer_27 rfl ?_
    refine J_iload_n d_XO_answer_28 rfl ?_
    refine J_aload_n d_XO_answer_29 rfl ?_
    refine J_get (j := 1) (v := .ref 4) d_XO_answer_30 (wX_at11 _ _) rfl in_4 (by decide) ts_153 rfl ?_
    refine J_iload_n d_XO_answer_33 rfl ?_
    obtain ⟨v6, e5, h⟩ := jb_some h
    refine J_cSi1N d_XO_answer_34 (c_X_bit l _ _ _ e5) ts_3 ts_good rfl rfl ts_4 ns_5 dy_X_bit (by decide) (Nat.le_of_ble_eq_true rfl) ts_5 ?_
    refine J_iload_n d_XO_answer_37 rfl ?_
    obtain ⟨v10, s8, a9, e7, h⟩ := jb3_some h
    refine J_cVi2 d_XO_answer_38 (c_XR_decide l _ _ _ _ _ e7) (wX_at4 _ _) rfl ts_143 ts_good rfl rfl ts_122 ts_154 dy_XR_decide (by decide) (Nat.le_of_ble_eq_true rfl) ts_145 ts_146 ?_
    obtain ⟨s12, a13, e11, h⟩ := jb2_some h
    refine J_cVv3 d_XO_answer_41 (c_XK_learn l _ _ _ _ _ _ e11) (wX_at6 _ _) rfl ts_155 ts_good rfl rfl ts_11 ts_156 dy_XK_learn (by decide) (Nat.le_of_ble_eq_true rfl) ts_157 ts_158 ?_
    refine J_aload_n d_XO_answer_44 rfl ?_
    refine J_get (j := 0) (v := .ref 6) d_XO_answer_45 (wX_at11 _ _) rfl in_4 (by decide) ts_151 rfl ?_
    refine J_iload_n d_XO_answer_48 rfl ?_
    refine J_iload_n d_XO_answer_49 rfl ?_
    obtain ⟨v15, e14, h⟩ := jb_some h
    refine J_cVi2 d_XO_answer_50 (c_XK_of l _ _ _ _ _ e14) (wX_at6 _ _) rfl ts_130 ts_good rfl rfl ts_11 ts_152 dy_XK_of (by decide) (Nat.le_of_ble_eq_true rfl) ts_132 ts_133 ?_
    exact J_iret d_XO_answer_53 rfl rfl (by cases h; exact ⟨rfl, rfl⟩)
abbrev rm_XK_allAbove : Room := { frames := 0, cells := 0, slots := 0, locals := 0 }
abbrev K_XK_allAbove (l : Launch) := JW l vwCl NsG TsG "ClassifySort$Knowledge" prog_3_method_4_code 2 (some .int) rm_XK_allAbove
def m_XK_allAbove (s : jS) (a : jB) (p0 : Int32) : Option (Int32) := jg (jin p0 21) (some (((a 7) (p0).toNatClampNeg)))
set_option maxRecDepth 100000 in
set_option maxHeartbeats 4000000 in
theorem c_XK_allAbove (l : Launch) (s : jS) (a : jB) (p0 : Int32) (r : Int32) (h : m_XK_allAbove s a p0 = some r) : JMet l vwCl NsG (.code y_XK_allAbove prog_3_method_4_code 2 (some .int) :: TsG) y_XK_allAbove rm_XK_allAbove [.ref 6, .int p0] (wX s a) (fun v w => v = some (.int r) ∧ w = wX s a) := by
  refine J_enter (by decide +kernel) rfl (Nat.le_of_ble_eq_true rfl) ?_
  unfold m_XK_allAbove at h
  refine J_eq (ls' := [some (.ref 6), some (.int p0)]) rfl rfl rfl rfl ?_
  refine J_aload_n d_XK_allAbove_0 rfl ?_
  refine J_get (j := 0) (v := .ref 7) d_XK_allAbove_1 (wX_at6 _ _) rfl in_3 (by decide) ts_2 rfl ?_
  refine J_iload_n d_XK_allAbove_4 rfl ?_
  obtain ⟨g, h⟩ := jg_some h
  refine J_iald (f := (a 7)) d_XK_allAbove_5 (wX_at7 _ _) (jin_in g) ?_
  exact J_iret d_XK_allAbove_6 rfl rfl (by cases h; exact ⟨rfl, rfl⟩)
abbrev rm_XK_strictlyAbove : Room := { frames := 0, cells := 0, slots := 0, locals := 0 }
abbrev K_XK_strictlyAbove (l : Launch) := JW l vwCl NsG TsG "ClassifySort$Knowledge" prog_3_method_6_code 2 (some .int) rm_XK_strictlyAbove
def m_XK_strictlyAbove (s : jS) (a : jB) (p0 : Int32) : Option (Int32) := jg (jin p0 21) (jg (jin p0 21) (some ((((a 7) (p0).toNatClampNeg) &&& (((a 8) (p0).toNatClampNeg) ^^^ (-1 : Int32))))))
set_option maxRecDepth 100000 in
set_option maxHeartbeats 4000000 in
theorem c_XK_strictlyAbove (l : Launch) (s : jS) (a : jB) (p0 : Int32) (r : Int32) (h : m_XK_strictlyAbove s a p0 = some r) : JMet l vwCl NsG (.code y_XK_strictlyAbove prog_3_method_6_code 2 (some .int) :: TsG) y_XK_strictlyAbove rm_XK_strictlyAbove [.ref 6, .int p0] (wX s a) (fun v w => v = some (.int r) ∧ w = wX s a) := by
  refine J_enter (by decide +kernel) rfl (Nat.le_of_ble_eq_true rfl) ?_
  unfold m_XK_strictlyAbove at h
  refine J_eq (ls' := [some (.ref 6), some (.int p0)]) rfl rfl rfl rfl ?_
  refine J_aload_n d_XK_strictlyAbove_0 rfl ?_
  refine J_get (j := 0) (v := .ref 7) d_XK_strictlyAbove_1 (wX_at6 _ _) rfl in_3 (by decide) ts_2 rfl ?_
  refine J_iload_n d_XK_strictlyAbove_4 rfl ?_
  obtain ⟨g, h⟩ := jg_some h
  refine J_iald (f := (a 7)) d_XK_strictlyAbove_5 (wX_at7 _ _) (jin_in g) ?_
  refine J_aload_n d_XK_strictlyAbove_6 rfl ?_
  refine J_get (j := 1) (v := .ref 8) d_XK_strictlyAbove_7 (wX_at6 _ _) rfl in_3 (by decide) ts_6 rfl ?_
  refine J_iload_n d_XK_strictlyAbove_10 rfl ?_
  obtain ⟨g, h⟩ := jg_some h
  refine J_iald (f := (a 8)) d_XK_strictlyAbove_11 (wX_at8 _ _) (jin_in g) ?_
  refine J_iconst (v := (-1 : Int32)) d_XK_strictlyAbove_12 (by decide) ?_
  refine J_ixor d_XK_strictlyAbove_13 ?_
  refine J_iand d_XK_strictlyAbove_14 ?_
  exact J_iret d_XK_strictlyAbove_15 rfl rfl (by cases h; exact ⟨rfl, rfl⟩)
abbrev rm_XO_nextDown : Room := { frames := 2, cells := 0, slots := 0, locals := 41 }
abbrev K_XO_nextDown (l : Launch) := JW l vwCl NsG TsG "ClassifySort$Order" prog_4_method_9_code 5 (some .int) rm_XO_nextDown
def L_XO_nextDown_12 (s : jS) (a : jB) (c2 : Int32) (c3 : Int32) (k58 : Unit → Option (Int32)) : Nat → Int32 → Option (Int32)
  | 0, _ => none
  | f + 1, x4 => (if (20 : Int32) ≤ x4 then k58 () else jb (m_X_has c2 x4) (fun v4 => (if v4 = (0 : Int32) then L_XO_nextDown_12 s a c2 c3 k58 f ((x4 + (1 : Int32))) else jb (m_XK_strictlyAbove s a x4) (fun v6 => (if ((v6 &&& (s 9)) &&& (c3 ^^^ (-1 : Int32))) = (0 : Int32) then some (x4) else L_XO_nextDown_12 s a c2 c3 k58 f ((x4 + (1 : Int32))))))))
set_option maxRecDepth 100000 in
set_option maxHeartbeats 4000000 in
theorem JL_XO_nextDown_12 (l : Launch) (s : jS) (a : jB) (c2 : Int32) (c3 : Int32) (k58 : Unit → Option (Int32)) (r : Int32) (hk58 : ∀ (_ : Unit) (o1 : Option Value) (o4 : Option Value), k58 () = some r → K_XO_nextDown l 58 [some (.ref 11), o1, some (.int c2), some (.int c3), o4] [] (wX s a) (fun v w => v = some (.int r) ∧ w = wX s a)) : ∀ (f : Nat), ∀ (x4 : Int32) (o1 : Option Value), L_XO_nextDown_12 s a c2 c3 k58 f x4 = some r → K_XO_nextDown l 12 [some (.ref 11), o1, some (.int c2), some (.int c3), some (.int x4)] [] (wX s a) (fun v w => v = some (.int r) ∧ w = wX s a) := by
  intro f
  induction f with
  | zero =>
    intro x4 o1 h
    cases h
  | succ f ih =>
    intro x4 o1 h
    rw [L_XO_nextDown_12] at h
    refine J_iload d_XO_nextDown_12 rfl ?_
    refine J_bipush (v := (20 : Int32)) d_XO_nextDown_14 (by decide) ?_
    refine J_icmp_ge (tgt := 58) d_XO_nextDown_16 (by decide) (fun c => ?_) (fun c => ?_)
    · have h := j_ifp c h
      exact hk58 () _ _ h
    · have h := j_ifn c h
      refine J_iload_n d_XO_nextDown_19 rfl ?_
      refine J_iload d_XO_nextDown_20 rfl ?_
      obtain ⟨v4, e3, h⟩ := jb_some h
      refine J_cSi2N d_XO_nextDown_22 (c_X_has l _ _ _ _ e3) ts_8 ts_good rfl rfl ts_4 ns_6 dy_X_has (by decide) (Nat.le_of_ble_eq_true rfl) ts_9 ?_
      refine J_if_eq (tgt := 52) d_XO_nextDown_25 (by decide) (fun c => ?_) (fun c => ?_)
      · have h := j_ifp c h
        refine J_iinc (v := (x4 + (1 : Int32))) d_XO_nextDown_52 rfl (by first | rfl | decide) (by decide) ?_
        refine J_goto (tgt := 12) d_XO_nextDown_55 (by decide) ?_
        exact ih _ _ h
      · have h := j_ifn c h
        refine J_aload_n d_XO_nextDown_28 rfl ?_
        refine J_get (j := 0) (v := .ref 6) d_XO_nextDown_29 (wX_at11 _ _) rfl in_4 (by decide) ts_151 rfl ?_
        refine J_iload d_XO_nextDown_32 rfl ?_
        obtain ⟨v6, e5, h⟩ := jb_some h
        refine J_cVi1 d_XO_nextDown_34 (c_XK_strictlyAbove l _ _ _ _ e5) (wX_at6 _ _) rfl ts_168 ts_good rfl rfl ts_11 ts_169 dy_XK_strictlyAbove (by decide) (Nat.le_of_ble_eq_true rfl) ts_170 ts_171 ?_
        refine J_aload_n d_XO_nextDown_37 rfl ?_
        refine J_get (j := 2) (v := .int (s 9)) d_XO_nextDown_38 (wX_at11 _ _) rfl in_4 (by decide) ts_148 rfl ?_
        refine J_iand d_XO_nextDown_41 ?_
        refine J_iload_n d_XO_nextDown_42 rfl ?_
        refine J_iconst (v := (-1 : Int32)) d_XO_nextDown_43 (by decide) ?_
        refine J_ixor d_XO_nextDown_44 ?_
        refine J_iand d_XO_nextDown_45 ?_
        refine J_if_ne (tgt := 52) d_XO_nextDown_46 (by decide) (fun c => ?_) (fun c => ?_)
        · have h := j_ifn c h
          refine J_iinc (v := (x4 + (1 : Int32))) d_XO_nextDown_52 rfl (by first | rfl | decide) (by decide) ?_
          refine J_goto (tgt := 12) d_XO_nextDown_55 (by decide) ?_
          exact ih _ _ h
        · have h := j_ifp c h
          refine J_iload d_XO_nextDown_49 rfl ?_
          exact J_iret d_XO_nextDown_51 rfl rfl (by cases h; exact ⟨rfl, rfl⟩)
def m_XO_nextDown (s : jS) (a : jB) (p0 : Int32) (p1 : Int32) : Option (Int32) := jb (m_XK_allAbove s a p0) (fun v2 => L_XO_nextDown_12 (s) (a) (p1) (v2) (fun _ => some ((-6 : Int32))) jF ((0 : Int32)))
set_option maxRecDepth 100000 in
set_option maxHeartbeats 4000000 in
theorem c_XO_nextDown (l : Launch) (s : jS) (a : jB) (p0 : Int32) (p1 : Int32) (r : Int32) (h : m_XO_nextDown s a p0 p1 = some r) : JMet l vwCl NsG (.code y_XO_nextDown prog_4_method_9_code 5 (some .int) :: TsG) y_XO_nextDown rm_XO_nextDown [.ref 11, .int p0, .int p1] (wX s a) (fun v w => v = some (.int r) ∧ w = wX s a) := by
  refine J_enter (by decide +kernel) rfl (Nat.le_of_ble_eq_true rfl) ?_
  unfold m_XO_nextDown at h
  refine J_eq (ls' := [some (.ref 11), some (.int p0), some (.int p1), none, none]) rfl rfl rfl rfl ?_
  refine J_aload_n d_XO_nextDown_0 rfl ?_
  refine J_get (j := 0) (v := .ref 6) d_XO_nextDown_1 (wX_at11 _ _) rfl in_4 (by decide) ts_151 rfl ?_
  refine J_iload_n d_XO_nextDown_4 rfl ?_
  obtain ⟨v2, e1, h⟩ := jb_some h
  refine J_cVi1 d_XO_nextDown_5 (c_XK_allAbove l _ _ _ _ e1) (wX_at6 _ _) rfl ts_164 ts_good rfl rfl ts_11 ts_165 dy_XK_allAbove (by decide) (Nat.le_of_ble_eq_true rfl) ts_166 ts_167 ?_
  refine J_istore_n d_XO_nextDown_8 (by decide) ?_
  refine J_iconst (v := (0 : Int32)) d_XO_nextDown_9 (by decide) ?_
  refine J_istore d_XO_nextDown_10 (by decide) ?_
  refine JL_XO_nextDown_12 l _ _ _ _ _ r (fun _ o7 o8 h => ?_) jF _ _ h
  refine J_bipush (v := (-6 : Int32)) d_XO_nextDown_58 (by decide) ?_
  exact J_iret d_XO_nextDown_60 rfl rfl (by cases h; exact ⟨rfl, rfl⟩)
abbrev rm_XO_searchDown : Room := { frames := 6, cells := 0, slots := 0, locals := 131 }
abbrev K_XO_searchDown (l : Launch) := JW l vwCl NsG TsG "ClassifySort$Order" prog_4_method_7_code 5 none rm_XO_searchDown
def L_XO_searchDown_7 (c1 : Int32) (k53 : jS → jB → Option (jS × jB)) : Nat → jS → jB → Int32 → Int32 → Option (jS × jB)
  | 0, _, _, _, _ => none
  | f + 1, s, a, x2, x3 => (if (20 : Int32) ≤ x3 then k53 (s) (a) else jb (m_XO_nextDown s a c1 x2) (fun v2 => (if v2 = (-6 : Int32) then some (s, a) else jb (m_X_bit v2) (fun v4 => jb3 (m_XO_answer s a c1 v2) (fun v8 s6 a7 => L_XO_searchDown_7 c1 k53 f (s6) (a7) ((x2 &&& (v4 ^^^ (-1 : Int32)))) ((x3 + (1 : Int32))))))))
set_option maxRecDepth 100000 in
set_option maxHeartbeats 4000000 in
theorem JL_XO_searchDown_7 (l : Launch) (c1 : Int32) (k53 : jS → jB → Option (jS × jB)) (r : jS × jB) (hk53 : ∀ (s : jS) (a : jB) (o2 : Option Value) (o3 : Option Value) (o4 : Option Value), k53 s a = some r → K_XO_searchDown l 53 [some (.ref 11), some (.int c1), o2, o3, o4] [] (wX s a) (fun v w => v = none ∧ w = wX r.1 r.2)) : ∀ (f : Nat), ∀ (s : jS) (a : jB) (x2 : Int32) (x3 : Int32) (o4 : Option Value), L_XO_searchDown_7 c1 k53 f s a x2 x3 = some r → K_XO_searchDown l 7 [some (.ref 11), some (.int c1), some (.int x2), some (.int x3), o4] [] (wX s a) (fun v w => v = none ∧ w = wX r.1 r.2) := by
  intro f
  induction f with
  | zero =>
    intro s a x2 x3 o4 h
    cases h
  | succ f ih =>
    intro s a x2 x3 o4 h
    rw [L_XO_searchDown_7] at h
    refine J_iload_n d_XO_searchDown_7 rfl ?_
    refine J_bipush (v := (20 : Int32)) d_XO_searchDown_8 (by decide) ?_
    refine J_icmp_ge (tgt := 53) d_XO_searchDown_10 (by decide) (fun c => ?_) (fun c => ?_)
    · have h := j_ifp c h
      exact hk53 _ _ _ _ _ h
    · have h := j_ifn c h
      refine J_aload_n d_XO_searchDown_13 rfl ?_
      refine J_iload_n d_XO_searchDown_14 rfl ?_
      refine J_iload_n d_XO_searchDown_15 rfl ?_
      obtain ⟨v2, e1, h⟩ := jb_some h
      refine J_cVi2 d_XO_searchDown_16 (c_XO_nextDown l _ _ _ _ _ e1) (wX_at11 _ _) rfl ts_172 ts_good rfl rfl ts_160 ts_173 dy_XO_nextDown (by decide) (Nat.le_of_ble_eq_true rfl) ts_174 ts_175 ?_
      refine J_istore d_XO_searchDown_19 (by decide) ?_
      refine J_iload d_XO_searchDown_21 rfl ?_
      refine J_bipush (v := (-6 : Int32)) d_XO_searchDown_23 (by decide) ?_
      refine J_icmp_ne (tgt := 29) d_XO_searchDown_25 (by decide) (fun c => ?_) (fun c => ?_)
      · have h := j_ifn c h
        refine J_iload_n d_XO_searchDown_29 rfl ?_
        refine J_iload d_XO_searchDown_30 rfl ?_
        obtain ⟨v4, e3, h⟩ := jb_some h
        refine J_cSi1N d_XO_searchDown_32 (c_X_bit l _ _ _ e3) ts_3 ts_good rfl rfl ts_4 ns_5 dy_X_bit (by decide) (Nat.le_of_ble_eq_true rfl) ts_5 ?_
        refine J_iconst (v := (-1 : Int32)) d_XO_searchDown_35 (by decide) ?_
        refine J_ixor d_XO_searchDown_36 ?_
        refine J_iand d_XO_searchDown_37 ?_
        refine J_istore_n d_XO_searchDown_38 (by decide) ?_
        refine J_aload_n d_XO_searchDown_39 rfl ?_
        refine J_iload_n d_XO_searchDown_40 rfl ?_
        refine J_iload d_XO_searchDown_41 rfl ?_
        obtain ⟨v8, s6, a7, e5, h⟩ := jb3_some h
        refine J_cVi2 d_XO_searchDown_43 (c_XO_answer l _ _ _ _ _ e5) (wX_at11 _ _) rfl ts_159 ts_good rfl rfl ts_160 ts_161 dy_XO_answer (by decide) (Nat.le_of_ble_eq_true rfl) ts_162 ts_163 ?_
        refine J_pop d_XO_searchDown_46 rfl ?_
        refine J_iinc (v := (x3 + (1 : Int32))) d_XO_searchDown_47 rfl (by first | rfl | decide) (by decide) ?_
        refine J_goto (tgt := 7) d_XO_searchDown_50 (by decide) ?_
        exact ih _ _ _ _ _ h
      · have h := j_ifp c h
        exact J_vret d_XO_searchDown_28 rfl (by cases h; exact ⟨rfl, rfl⟩)
def m_XO_searchDown (s : jS) (a : jB) (p0 : Int32) : Option (jS × jB) := L_XO_searchDown_7 (p0) (fun s9 a10 => some (s9, a10)) jF (s) (a) ((s 9)) ((0 : Int32))
set_option maxRecDepth 100000 in
set_option maxHeartbeats 4000000 in
theorem c_XO_searchDown (l : Launch) (s : jS) (a : jB) (p0 : Int32) (r : jS × jB) (h : m_XO_searchDown s a p0 = some r) : JMet l vwCl NsG (.code y_XO_searchDown prog_4_method_7_code 5 none :: TsG) y_XO_searchDown rm_XO_searchDown [.ref 11, .int p0] (wX s a) (fun v w => v = none ∧ w = wX r.1 r.2) := by
  refine J_enter (by decide +kernel) rfl (Nat.le_of_ble_eq_true rfl) ?_
  unfold m_XO_searchDown at h
  refine J_eq (ls' := [some (.ref 11), some (.int p0), none, none, none]) rfl rfl rfl rfl ?_
  refine J_aload_n d_XO_searchDown_0 rfl ?_
  refine J_get (j := 2) (v := .int (s 9)) d_XO_searchDown_1 (wX_at11 _ _) rfl in_4 (by decide) ts_148 rfl ?_
  refine J_istore_n d_XO_searchDown_4 (by decide) ?_
  refine J_iconst (v := (0 : Int32)) d_XO_searchDown_5 (by decide) ?_
  refine J_istore_n d_XO_searchDown_6 (by decide) ?_
  refine JL_XO_searchDown_7 l _ _ r (fun s9 a10 o11 o12 o13 h => ?_) jF _ _ _ _ _ h
  exact J_vret d_XO_searchDown_53 rfl (by cases h; exact ⟨rfl, rfl⟩)
abbrev rm_XK_allBelow : Room := { frames := 0, cells := 0, slots := 0, locals := 0 }
abbrev K_XK_allBelow (l : Launch) := JW l vwCl NsG TsG "ClassifySort$Knowledge" prog_3_method_5_code 2 (some .int) rm_XK_allBelow
def m_XK_allBelow (s : jS) (a : jB) (p0 : Int32) : Option (Int32) := jg (jin p0 21) (some (((a 8) (p0).toNatClampNeg)))
set_option maxRecDepth 100000 in
set_option maxHeartbeats 4000000 in
theorem c_XK_allBelow (l : Launch) (s : jS) (a : jB) (p0 : Int32) (r : Int32) (h : m_XK_allBelow s a p0 = some r) : JMet l vwCl NsG (.code y_XK_allBelow prog_3_method_5_code 2 (some .int) :: TsG) y_XK_allBelow rm_XK_allBelow [.ref 6, .int p0] (wX s a) (fun v w => v = some (.int r) ∧ w = wX s a) := by
  refine J_enter (by decide +kernel) rfl (Nat.le_of_ble_eq_true rfl) ?_
  unfold m_XK_allBelow at h
  refine J_eq (ls' := [some (.ref 6), some (.int p0)]) rfl rfl rfl rfl ?_
  refine J_aload_n d_XK_allBelow_0 rfl ?_
  refine J_get (j := 1) (v := .ref 8) d_XK_allBelow_1 (wX_at6 _ _) rfl in_3 (by decide) ts_6 rfl ?_
  refine J_iload_n d_XK_allBelow_4 rfl ?_
  obtain ⟨g, h⟩ := jg_some h
  refine J_iald (f := (a 8)) d_XK_allBelow_5 (wX_at8 _ _) (jin_in g) ?_
  exact J_iret d_XK_allBelow_6 rfl rfl (by cases h; exact ⟨rfl, rfl⟩)
abbrev rm_XK_strictlyBelow : Room := { frames := 0, cells := 0, slots := 0, locals := 0 }
abbrev K_XK_strictlyBelow (l : Launch) := JW l vwCl NsG TsG "ClassifySort$Knowledge" prog_3_method_7_code 2 (some .int) rm_XK_strictlyBelow
def m_XK_strictlyBelow (s : jS) (a : jB) (p0 : Int32) : Option (Int32) := jg (jin p0 21) (jg (jin p0 21) (some ((((a 8) (p0).toNatClampNeg) &&& (((a 7) (p0).toNatClampNeg) ^^^ (-1 : Int32))))))
set_option maxRecDepth 100000 in
set_option maxHeartbeats 4000000 in
theorem c_XK_strictlyBelow (l : Launch) (s : jS) (a : jB) (p0 : Int32) (r : Int32) (h : m_XK_strictlyBelow s a p0 = some r) : JMet l vwCl NsG (.code y_XK_strictlyBelow prog_3_method_7_code 2 (some .int) :: TsG) y_XK_strictlyBelow rm_XK_strictlyBelow [.ref 6, .int p0] (wX s a) (fun v w => v = some (.int r) ∧ w = wX s a) := by
  refine J_enter (by decide +kernel) rfl (Nat.le_of_ble_eq_true rfl) ?_
  unfold m_XK_strictlyBelow at h
  refine J_eq (ls' := [some (.ref 6), some (.int p0)]) rfl rfl rfl rfl ?_
  refine J_aload_n d_XK_strictlyBelow_0 rfl ?_
  refine J_get (j := 1) (v := .ref 8) d_XK_strictlyBelow_1 (wX_at6 _ _) rfl in_3 (by decide) ts_6 rfl ?_
  refine J_iload_n d_XK_strictlyBelow_4 rfl ?_
  obtain ⟨g, h⟩ := jg_some h
  refine J_iald (f := (a 8)) d_XK_strictlyBelow_5 (wX_at8 _ _) (jin_in g) ?_
  refine J_aload_n d_XK_strictlyBelow_6 rfl ?_
  refine J_get (j := 0) (v := .ref 7) d_XK_strictlyBelow_7 (wX_at6 _ _) rfl in_3 (by decide) ts_2 rfl ?_
  refine J_iload_n d_XK_strictlyBelow_10 rfl ?_
  obtain ⟨g, h⟩ := jg_some h
  refine J_iald (f := (a 7)) d_XK_strictlyBelow_11 (wX_at7 _ _) (jin_in g) ?_
  refine J_iconst (v := (-1 : Int32)) d_XK_strictlyBelow_12 (by decide) ?_
  refine J_ixor d_XK_strictlyBelow_13 ?_
  refine J_iand d_XK_strictlyBelow_14 ?_
  exact J_iret d_XK_strictlyBelow_15 rfl rfl (by cases h; exact ⟨rfl, rfl⟩)
abbrev rm_XO_nextUp : Room := { frames := 2, cells := 0, slots := 0, locals := 41 }
abbrev K_XO_nextUp (l : Launch) := JW l vwCl NsG TsG "ClassifySort$Order" prog_4_method_10_code 6 (some .int) rm_XO_nextUp
def L_XO_nextUp_27 (s : jS) (a : jB) (c2 : Int32) (c3 : Int32) (c4 : Int32) (k90 : Unit → Option (Int32)) : Nat → Int32 → Option (Int32)
  | 0, _ => none
  | f + 1, x5 => (if (20 : Int32) ≤ x5 then k90 () else jb (m_X_has c2 x5) (fun v6 => (if v6 = (0 : Int32) then L_XO_nextUp_27 s a c2 c3 c4 k90 f ((x5 + (1 : Int32))) else jb (m_XK_allAbove s a x5) (fun v8 => (if (c3 &&& (v8 ^^^ (-1 : Int32))) = (0 : Int32) then jb (m_XK_strictlyBelow s a x5) (fun v10 => (if ((v10 &&& (s 9)) &&& (c4 ^^^ (-1 : Int32))) = (0 : Int32) then some (x5) else L_XO_nextUp_27 s a c2 c3 c4 k90 f ((x5 + (1 : Int32))))) else L_XO_nextUp_27 s a c2 c3 c4 k90 f ((x5 + (1 : Int32))))))))
set_option maxRecDepth 100000 in
set_option maxHeartbeats 4000000 in
theorem JL_XO_nextUp_27 (l : Launch) (s : jS) (a : jB) (c2 : Int32) (c3 : Int32) (c4 : Int32) (k90 : Unit → Option (Int32)) (r : Int32) (hk90 : ∀ (_ : Unit) (o1 : Option Value) (o5 : Option Value), k90 () = some r → K_XO_nextUp l 90 [some (.ref 11), o1, some (.int c2), some (.int c3), some (.int c4), o5] [] (wX s a) (fun v w => v = some (.int r) ∧ w = wX s a)) : ∀ (f : Nat), ∀ (x5 : Int32) (o1 : Option Value), L_XO_nextUp_27 s a c2 c3 c4 k90 f x5 = some r → K_XO_nextUp l 27 [some (.ref 11), o1, some (.int c2), some (.int c3), some (.int c4), some (.int x5)] [] (wX s a) (fun v w => v = some (.int r) ∧ w = wX s a) := by
  intro f
  induction f with
  | zero =>
    intro x5 o1 h
    cases h
  | succ f ih =>
    intro x5 o1 h
    rw [L_XO_nextUp_27] at h
    refine J_iload d_XO_nextUp_27 rfl ?_
    refine J_bipush (v := (20 : Int32)) d_XO_nextUp_29 (by decide) ?_
    refine J_icmp_ge (tgt := 90) d_XO_nextUp_31 (by decide) (fun c => ?_) (fun c => ?_)
    · have h := j_ifp c h
      exact hk90 () _ _ h
    · have h := j_ifn c h
      refine J_iload_n d_XO_nextUp_34 rfl ?_
      refine J_iload d_XO_nextUp_35 rfl ?_
      obtain ⟨v6, e5, h⟩ := jb_some h
      refine J_cSi2N d_XO_nextUp_37 (c_X_has l _ _ _ _ e5) ts_8 ts_good rfl rfl ts_4 ns_6 dy_X_has (by decide) (Nat.le_of_ble_eq_true rfl) ts_9 ?_
      refine J_if_eq (tgt := 84) d_XO_nextUp_40 (by decide) (fun c => ?_) (fun c => ?_)
      · have h := j_ifp c h
        refine J_iinc (v := (x5 + (1 : Int32))) d_XO_nextUp_84 rfl (by first | rfl | decide) (by decide) ?_
        refine J_goto (tgt := 27) d_XO_nextUp_87 (by decide) ?_
        exact ih _ _ h
      · have h := j_ifn c h
        refine J_iload_n d_XO_nextUp_43 rfl ?_
        refine J_aload_n d_XO_nextUp_44 rfl ?_
        refine J_get (j := 0) (v := .ref 6) d_XO_nextUp_45 (wX_at11 _ _) rfl in_4 (by decide) ts_151 rfl ?_
        refine J_iload d_XO_nextUp_48 rfl ?_
        obtain ⟨v8, e7, h⟩ := jb_some h
        refine J_cVi1 d_XO_nextUp_50 (c_XK_allAbove l _ _ _ _ e7) (wX_at6 _ _) rfl ts_164 ts_good rfl rfl ts_11 ts_165 dy_XK_allAbove (by decide) (Nat.le_of_ble_eq_true rfl) ts_166 ts_167 ?_
        refine J_iconst (v := (-1 : Int32)) d_XO_nextUp_53 (by decide) ?_
        refine J_ixor d_XO_nextUp_54 ?_
        refine J_iand d_XO_nextUp_55 ?_
        refine J_if_ne (tgt := 84) d_XO_nextUp_56 (by decide) (fun c => ?_) (fun c => ?_)
        · have h := j_ifn c h
          refine J_iinc (v := (x5 + (1 : Int32))) d_XO_nextUp_84 rfl (by first | rfl | decide) (by decide) ?_
          refine J_goto (tgt := 27) d_XO_nextUp_87 (by decide) ?_
          exact ih _ _ h
        · have h := j_ifp c h
          refine J_aload_n d_XO_nextUp_59 rfl ?_
          refine J_get (j := 0) (v := .ref 6) d_XO_nextUp_60 (wX_at11 _ _) rfl in_4 (by decide) ts_151 rfl ?_
          refine J_iload d_XO_nextUp_63 rfl ?_
          obtain ⟨v10, e9, h⟩ := jb_some h
          refine J_cVi1 d_XO_nextUp_65 (c_XK_strictlyBelow l _ _ _ _ e9) (wX_at6 _ _) rfl ts_184 ts_good rfl rfl ts_11 ts_185 dy_XK_strictlyBelow (by decide) (Nat.le_of_ble_eq_true rfl) ts_186 ts_187 ?_
          refine J_aload_n d_XO_nextUp_68 rfl ?_
          refine J_get (j := 2) (v := .int (s 9)) d_XO_nextUp_69 (wX_at11 _ _) rfl in_4 (by decide) ts_148 rfl ?_
          refine J_iand d_XO_nextUp_72 ?_
          refine J_iload d_XO_nextUp_73 rfl ?_
          refine J_iconst (v := (-1 : Int32)) d_XO_nextUp_75 (by decide) ?_
          refine J_ixor d_XO_nextUp_76 ?_
          refine J_iand d_XO_nextUp_77 ?_
          refine J_if_ne (tgt := 84) d_XO_nextUp_78 (by decide) (fun c => ?_) (fun c => ?_)
          · have h := j_ifn c h
            refine J_iinc (v := (x5 + (1 : Int32))) d_XO_nextUp_84 rfl (by first | rfl | decide) (by decide) ?_
            refine J_goto (tgt := 27) d_XO_nextUp_87 (by decide) ?_
            exact ih _ _ h
          · have h := j_ifp c h
            refine J_iload d_XO_nextUp_81 rfl ?_
            exact J_iret d_XO_nextUp_83 rfl rfl (by cases h; exact ⟨rfl, rfl⟩)
def m_XO_nextUp (s : jS) (a : jB) (p0 : Int32) (p1 : Int32) : Option (Int32) := jb (m_XK_allAbove s a p0) (fun v2 => jb (m_XK_allBelow s a p0) (fun v4 => L_XO_nextUp_27 (s) (a) (p1) ((v2 &&& (s 9))) (v4) (fun _ => some ((-6 : Int32))) jF ((0 : Int32))))
set_option maxRecDepth 100000 in
set_option maxHeartbeats 4000000 in
theorem c_XO_nextUp (l : Launch) (s : jS) (a : jB) (p0 : Int32) (p1 : Int32) (r : Int32) (h : m_XO_nextUp s a p0 p1 = some r) : JMet l vwCl NsG (.code y_XO_nextUp prog_4_method_10_code 6 (some .int) :: TsG) y_XO_nextUp rm_XO_nextUp [.ref 11, .int p0, .int p1] (wX s a) (fun v w => v = some (.int r) ∧ w = wX s a) := by
  refine J_enter (by decide +kernel) rfl (Nat.le_of_ble_eq_true rfl) ?_
  unfold m_XO_nextUp at h
  refine J_eq (ls' := [some (.ref 11), some (.int p0), some (.int p1), none, none, none]) rfl rfl rfl rfl ?_
  refine J_aload_n d_XO_nextUp_0 rfl ?_
  refine J_get (j := 0) (v := .ref 6) d_XO_nextUp_1 (wX_at11 _ _) rfl in_4 (by decide) ts_151 rfl ?_
  refine J_iload_n d_XO_nextUp_4 rfl ?_
  obtain ⟨v2, e1, h⟩ := jb_some h
  refine J_cVi1 d_XO_nextUp_5 (c_XK_allAbove l _ _ _ _ e1) (wX_at6 _ _) rfl ts_164 ts_good rfl rfl ts_11 ts_165 dy_XK_allAbove (by decide) (Nat.le_of_ble_eq_true rfl) ts_166 ts_167 ?_
  refine J_aload_n d_XO_nextUp_8 rfl ?_
  refine J_get (j := 2) (v := .int (s 9)) d_XO_nextUp_9 (wX_at11 _ _) rfl in_4 (by decide) ts_148 rfl ?_
  refine J_iand d_XO_nextUp_12 ?_
  refine J_istore_n d_XO_nextUp_13 (by decide) ?_
  refine J_aload_n d_XO_nextUp_14 rfl ?_
  refine J_get (j := 0) (v := .ref 6) d_XO_nextUp_15 (wX_at11 _ _) rfl in_4 (by decide) ts_151 rfl ?_
  refine J_iload_n d_XO_nextUp_18 rfl ?_
  obtain ⟨v4, e3, h⟩ := jb_some h
  refine J_cVi1 d_XO_nextUp_19 (c_XK_allBelow l _ _ _ _ e3) (wX_at6 _ _) rfl ts_180 ts_good rfl rfl ts_11 ts_181 dy_XK_allBelow (by decide) (Nat.le_of_ble_eq_true rfl) ts_182 ts_183 ?_
  refine J_istore d_XO_nextUp_22 (by decide) ?_
  refine J_iconst (v := (0 : Int32)) d_XO_nextUp_24 (by decide) ?_
  refine J_istore d_XO_nextUp_25 (by decide) ?_
  refine JL_XO_nextUp_27 l _ _ _ _ _ _ r (fun _ o11 o12 h => ?_) jF _ _ h
  refine J_bipush (v := (-6 : Int32)) d_XO_nextUp_90 (by decide) ?_
  exact J_iret d_XO_nextUp_92 rfl rfl (by cases h; exact ⟨rfl, rfl⟩)
abbrev rm_XO_searchUp : Room := { frames := 6, cells := 0, slots := 0, locals := 131 }
abbrev K_XO_searchUp (l : Launch) := JW l vwCl NsG TsG "ClassifySort$Order" prog_4_method_8_code 5 none rm_XO_searchUp
def L_XO_searchUp_7 (c1 : Int32) (k53 : jS → jB → Option (jS × jB)) : Nat → jS → jB → Int32 → Int32 → Option (jS × jB)
  | 0, _, _, _, _ => none
  | f + 1, s, a, x2, x3 => (if (20 : Int32) ≤ x3 then k53 (s) (a) else jb (m_XO_nextUp s a c1 x2) (fun v2 => (if v2 = (-6 : Int32) then some (s, a) else jb (m_X_bit v2) (fun v4 => jb3 (m_XO_answer s a v2 c1) (fun v8 s6 a7 => L_XO_searchUp_7 c1 k53 f (s6) (a7) ((x2 &&& (v4 ^^^ (-1 : Int32)))) ((x3 + (1 : Int32))))))))
set_option maxRecDepth 100000 in
set_option maxHeartbeats 4000000 in
theorem JL_XO_searchUp_7 (l : Launch) (c1 : Int32) (k53 : jS → jB → Option (jS × jB)) (r : jS × jB) (hk53 : ∀ (s : jS) (a : jB) (o2 : Option Value) (o3 : Option Value) (o4 : Option Value), k53 s a = some r → K_XO_searchUp l 53 [some (.ref 11), some (.int c1), o2, o3, o4] [] (wX s a) (fun v w => v = none ∧ w = wX r.1 r.2)) : ∀ (f : Nat), ∀ (s : jS) (a : jB) (x2 : Int32) (x3 : Int32) (o4 : Option Value), L_XO_searchUp_7 c1 k53 f s a x2 x3 = some r → K_XO_searchUp l 7 [some (.ref 11), some (.int c1), some (.int x2), some (.int x3), o4] [] (wX s a) (fun v w => v = none ∧ w = wX r.1 r.2) := by
  intro f
  induction f with
  | zero =>
    intro s a x2 x3 o4 h
    cases h
  | succ f ih =>
    intro s a x2 x3 o4 h
    rw [L_XO_searchUp_7] at h
    refine J_iload_n d_XO_searchUp_7 rfl ?_
    refine J_bipush (v := (20 : Int32)) d_XO_searchUp_8 (by decide) ?_
    refine J_icmp_ge (tgt := 53) d_XO_searchUp_10 (by decide) (fun c => ?_) (fun c => ?_)
    · have h := j_ifp c h
      exact hk53 _ _ _ _ _ h
    · have h := j_ifn c h
      refine J_aload_n d_XO_searchUp_13 rfl ?_
      refine J_iload_n d_XO_searchUp_14 rfl ?_
      refine J_iload_n d_XO_searchUp_15 rfl ?_
      obtain ⟨v2, e1, h⟩ := jb_some h
      refine J_cVi2 d_XO_searchUp_16 (c_XO_nextUp l _ _ _ _ _ e1) (wX_at11 _ _) rfl ts_188 ts_good rfl rfl ts_160 ts_189 dy_XO_nextUp (by decide) (Nat.le_of_ble_eq_true rfl) ts_190 ts_191 ?_
      refine J_istore d_XO_searchUp_19 (by decide) ?_
      refine J_iload d_XO_searchUp_21 rfl ?_
      refine J_bipush (v := (-6 : Int32)) d_XO_searchUp_23 (by decide) ?_
      refine J_icmp_ne (tgt := 29) d_XO_searchUp_25 (by decide) (fun c => ?_) (fun c => ?_)
      · have h := j_ifn c h
        refine J_iload_n d_XO_searchUp_29 rfl ?_
        refine J_iload d_XO_searchUp_30 rfl ?_
        obtain ⟨v4, e3, h⟩ := jb_some h
        refine J_cSi1N d_XO_searchUp_32 (c_X_bit l _ _ _ e3) ts_3 ts_good rfl rfl ts_4 ns_5 dy_X_bit (by decide) (Nat.le_of_ble_eq_true rfl) ts_5 ?_
        refine J_iconst (v := (-1 : Int32)) d_XO_searchUp_35 (by decide) ?_
        refine J_ixor d_XO_searchUp_36 ?_
        refine J_iand d_XO_searchUp_37 ?_
        refine J_istore_n d_XO_searchUp_38 (by decide) ?_
        refine J_aload_n d_XO_searchUp_39 rfl ?_
        refine J_iload d_XO_searchUp_40 rfl ?_
        refine J_iload_n d_XO_searchUp_42 rfl ?_
        obtain ⟨v8, s6, a7, e5, h⟩ := jb3_some h
        refine J_cVi2 d_XO_searchUp_43 (c_XO_answer l _ _ _ _ _ e5) (wX_at11 _ _) rfl ts_159 ts_good rfl rfl ts_160 ts_161 dy_XO_answer (by decide) (Nat.le_of_ble_eq_true rfl) ts_162 ts_163 ?_
        refine J_pop d_XO_searchUp_46 rfl ?_
        refine J_iinc (v := (x3 + (1 : Int32))) d_XO_searchUp_47 rfl (by first | rfl | decide) (by decide) ?_
        refine J_goto (tgt := 7) d_XO_searchUp_50 (by decide) ?_
        exact ih _ _ _ _ _ h
      · have h := j_ifp c h
        exact J_vret d_XO_searchUp_28 rfl (by cases h; exact ⟨rfl, rfl⟩)
def m_XO_searchUp (s : jS) (a : jB) (p0 : Int32) : Option (jS × jB) := L_XO_searchUp_7 (p0) (fun s9 a10 => some (s9, a10)) jF (s) (a) ((s 9)) ((0 : Int32))
set_option maxRecDepth 100000 in
set_option maxHeartbeats 4000000 in
theorem c_XO_searchUp (l : Launch) (s : jS) (a : jB) (p0 : Int32) (r : jS × jB) (h : m_XO_searchUp s a p0 = some r) : JMet l vwCl NsG (.code y_XO_searchUp prog_4_method_8_code 5 none :: TsG) y_XO_searchUp rm_XO_searchUp [.ref 11, .int p0] (wX s a) (fun v w => v = none ∧ w = wX r.1 r.2) := by
  refine J_enter (by decide +kernel) rfl (Nat.le_of_ble_eq_true rfl) ?_
  unfold m_XO_searchUp at h
  refine J_eq (ls' := [some (.ref 11), some (.int p0), none, none, none]) rfl rfl rfl rfl ?_
  refine J_aload_n d_XO_searchUp_0 rfl ?_
  refine J_get (j := 2) (v := .int (s 9)) d_XO_searchUp_1 (wX_at11 _ _) rfl in_4 (by decide) ts_148 rfl ?_
  refine J_istore_n d_XO_searchUp_4 (by decide) ?_
  refine J_iconst (v := (0 : Int32)) d_XO_searchUp_5 (by decide) ?_
  refine J_istore_n d_XO_searchUp_6 (by decide) ?_
  refine JL_XO_searchUp_7 l _ _ r (fun s9 a10 o11 o12 o13 h => ?_) jF _ _ _ _ _ h
  exact J_vret d_XO_searchUp_53 rfl (by cases h; exact ⟨rfl, rfl⟩)
abbrev rm_XO_sort : Room := { frames := 7, cells := 0, slots := 0, locals := 155 }
abbrev K_XO_sort (l : Launch) := JW l vwCl NsG TsG "ClassifySort$Order" prog_4_method_5_code 3 (some .int) rm_XO_sort
def L_XO_sort_17 (c1 : Int32) (k84 : jS → jB → Option (Int32 × jS × jB)) : Nat → jS → jB → Int32 → Option (Int32 × jS × jB)
  | 0, _, _, _ => none
  | f + 1, s, a, x2 => (if c1 ≤ x2 then k84 (s) (a) else (if (20 : Int32) ≤ x2 then k84 (s) (a) else jb3 (m_XO_answer s a x2 (20 : Int32)) (fun v4 s2 a3 => (if v4 = (1 : Int32) then jb (m_X_bit x2) (fun v14 => L_XO_sort_17 c1 k84 f ((upd s2 10 ((s2 10) ||| v14))) (a3) ((x2 + (1 : Int32)))) else jb2 (m_XO_searchDown s2 a3 x2) (fun s6 a7 => jb2 (m_XO_searchUp s6 a7 x2) (fun s9 a10 => jb (m_X_bit x2) (fun v12 => L_XO_sort_17 c1 k84 f ((upd s9 9 ((s9 9) ||| v12))) (a10) ((x2 + (1 : Int32))))))))))
set_option maxRecDepth 100000 in
set_option maxHeartbeats 4000000 in
theorem JL_XO_sort_17 (l : Launch) (c1 : Int32) (k84 : jS → jB → Option (Int32 × jS × jB)) (r : Int32 × jS × jB) (hk84 : ∀ (s : jS) (a : jB) (o2 : Option Value), k84 s a = some r → K_XO_sort l 84 [some (.ref 11), some (.int c1), o2] [] (wX s a) (fun v w => v = some (.int r.1) ∧ w = wX r.2.1 r.2.2)) : ∀ (f : Nat), ∀ (s : jS) (a : jB) (x2 : Int32), L_XO_sort_17 c1 k84 f s a x2 = some r → K_XO_sort l 17 [some (.ref 11), some (.int c1), some (.int x2)] [] (wX s a) (fun v w => v = some (.int r.1) ∧ w = wX r.2.1 r.2.2) := by
  intro f
  induction f with
  | zero =>
    intro s a x2 h
    cases h
  | succ f ih =>
    intro s a x2 h
    rw [L_XO_sort_17] at h
    refine J_iload_n d_XO_sort_17 rfl ?_
    refine J_iload_n d_XO_sort_18 rfl ?_
    refine J_icmp_ge (tgt := 84) d_XO_sort_19 (by decide) (fun c => ?_) (fun c => ?_)
    · have h := j_ifp c h
      exact hk84 _ _ _ h
    · have h := j_ifn c h
      refine J_iload_n d_XO_sort_22 rfl ?_
      refine J_bipush (v := (20 : Int32)) d_XO_sort_23 (by decide) ?_
      refine J_icmp_ge (tgt := 84) d_XO_sort_25 (by decide) (fun c => ?_) (fun c => ?_)
      · have h := j_ifp c h
        exact hk84 _ _ _ h
      · have h := j_ifn c h
        refine J_aload_n d_XO_sort_28 rfl ?_
        refine J_iload_n d_XO_sort_29 rfl ?_
        refine J_bipush (v := (20 : Int32)) d_XO_sort_30 (by decide) ?_
        obtain ⟨v4, s2, a3, e1, h⟩ := jb3_some h
        refine J_cVi2 d_XO_sort_32 (c_XO_answer l _ _ _ _ _ e1) (wX_at11 _ _) rfl ts_159 ts_good rfl rfl ts_160 ts_161 dy_XO_answer (by decide) (Nat.le_of_ble_eq_true rfl) ts_162 ts_163 ?_
        refine J_iconst (v := (1 : Int32)) d_XO_sort_35 (by decide) ?_
        refine J_icmp_ne (tgt := 55) d_XO_sort_36 (by decide) (fun c => ?_) (fun c => ?_)
        · have h := j_ifn c h
          refine J_aload_n d_XO_sort_55 rfl ?_
          refine J_iload_n d_XO_sort_56 rfl ?_
          obtain ⟨s6, a7, e5, h⟩ := jb2_some h
          refine J_cVv1 d_XO_sort_57 (c_XO_searchDown l _ _ _ _ e5) (wX_at11 _ _) rfl ts_176 ts_good rfl rfl ts_160 ts_177 dy_XO_searchDown (by decide) (Nat.le_of_ble_eq_true rfl) ts_178 ts_179 ?_
          refine J_aload_n d_XO_sort_60 rfl ?_
          refine J_iload_n d_XO_sort_61 rfl ?_
          obtain ⟨s9, a10, e8, h⟩ := jb2_some h
          refine J_cVv1 d_XO_sort_62 (c_XO_searchUp l _ _ _ _ e8) (wX_at11 _ _) rfl ts_192 ts_good rfl rfl ts_160 ts_193 dy_XO_searchUp (by decide) (Nat.le_of_ble_eq_true rfl) ts_194 ts_195 ?_
          refine J_aload_n d_XO_sort_65 rfl ?_
          refine J_dup d_XO_sort_66 rfl ?_
          refine J_get (j := 2) (v := .int (s9 9)) d_XO_sort_67 (wX_at11 _ _) rfl in_4 (by decide) ts_148 rfl ?_
          refine J_iload_n d_XO_sort_70 rfl ?_
          obtain ⟨v12, e11, h⟩ := jb_some h
          refine J_cSi1N d_XO_sort_71 (c_X_bit l _ _ _ e11) ts_3 ts_good rfl rfl ts_4 ns_5 dy_X_bit (by decide) (Nat.le_of_ble_eq_true rfl) ts_5 ?_
          refine J_ior d_XO_sort_74 ?_
          refine J_put (j := 2) d_XO_sort_75 (wX_at11 _ _) rfl in_4 ty_XO tyok_XO nok_XO (by decide) ts_148 rfl (tyok_XO 2 (by decide)) rfl rfl (Nat.le_of_ble_eq_true rfl) ?_
          refine J_eq rfl rfl rfl (wX_put9 _ _ _) ?_
          refine J_iinc (v := (x2 + (1 : Int32))) d_XO_sort_78 rfl (by first | rfl | decide) (by decide) ?_
          refine J_goto (tgt := 17) d_XO_sort_81 (by decide) ?_
          exact ih _ _ _ h
        · have h := j_ifp c h
          refine J_aload_n d_XO_sort_39 rfl ?_
          refine J_dup d_XO_sort_40 rfl ?_
          refine J_get (j := 3) (v := .int (s2 10)) d_XO_sort_41 (wX_at11 _ _) rfl in_4 (by decide) ts_149 rfl ?_
          refine J_iload_n d_XO_sort_44 rfl ?_
          obtain ⟨v14, e13, h⟩ := jb_some h
          refine J_cSi1N d_XO_sort_45 (c_X_bit l _ _ _ e13) ts_3 ts_good rfl rfl ts_4 ns_5 dy_X_bit (by decide) (Nat.le_of_ble_eq_true rfl) ts_5 ?_
          refine J_ior d_XO_sort_48 ?_
          refine J_put (j := 3) d_XO_sort_49 (wX_at11 _ _) rfl in_4 ty_XO tyok_XO nok_XO (by decide) ts_149 rfl (tyok_XO 3 (by decide)) rfl rfl (Nat.le_of_ble_eq_true rfl) ?_
          refine J_eq rfl rfl rfl (wX_put10 _ _ _) ?_
          refine J_goto (tgt := 78) d_XO_sort_52 (by decide) ?_
          refine J_iinc (v := (x2 + (1 : Int32))) d_XO_sort_78 rfl (by first | rfl | decide) (by decide) ?_
          refine J_goto (tgt := 17) d_XO_sort_81 (by decide) ?_
          exact ih _ _ _ h
def m_XO_sort (s : jS) (a : jB) (p0 : Int32) : Option (Int32 × jS × jB) := L_XO_sort_17 (p0) (fun s15 a16 => some ((s15 11), s15, a16)) jF ((upd (upd (upd s 9 (0 : Int32)) 10 (0 : Int32)) 11 (0 : Int32))) (a) ((0 : Int32))
set_option maxRecDepth 100000 in
set_option maxHeartbeats 4000000 in
theorem c_XO_sort (l : Launch) (s : jS) (a : jB) (p0 : Int32) (r : Int32 × jS × jB) (h : m_XO_sort s a p0 = some r) : JMet l vwCl NsG (.code y_XO_sort prog_4_method_5_code 3 (some .int) :: TsG) y_XO_sort rm_XO_sort [.ref 11, .int p0] (wX s a) (fun v w => v = some (.int r.1) ∧ w = wX r.2.1 r.2.2) := by
  refine J_enter (by decide +kernel) rfl (Nat.le_of_ble_eq_true rfl) ?_
  unfold m_XO_sort at h
  refine J_eq (ls' := [some (.ref 11), some (.int p0), none]) rfl rfl rfl rfl ?_
  refine J_aload_n d_XO_sort_0 rfl ?_
  refine J_iconst (v := (0 : Int32)) d_XO_sort_1 (by decide) ?_
  refine J_put (j := 2) d_XO_sort_2 (wX_at11 _ _) rfl in_4 ty_XO tyok_XO nok_XO (by decide) ts_148 rfl (tyok_XO 2 (by decide)) rfl rfl (Nat.le_of_ble_eq_true rfl) ?_
  refine J_eq rfl rfl rfl (wX_put9 _ _ _) ?_
  refine J_aload_n d_XO_sort_5 rfl ?_
  refine J_iconst (v := (0 : Int32)) d_XO_sort_6 (by decide) ?_
  refine J_put (j := 3) d_XO_sort_7 (wX_at11 _ _) rfl in_4 ty_XO tyok_XO nok_XO (by decide) ts_149 rfl (tyok_XO 3 (by decide)) rfl rfl (Nat.le_of_ble_eq_true rfl) ?_
  refine J_eq rfl rfl rfl (wX_put10 _ _ _) ?_
  refine J_aload_n d_XO_sort_10 rfl ?_
  refine J_iconst (v := (0 : Int32)) d_XO_sort_11 (by decide) ?_
  refine J_put (j := 4) d_XO_sort_12 (wX_at11 _ _) rfl in_4 ty_XO tyok_XO nok_XO (by decide) ts_150 rfl (tyok_XO 4 (by decide)) rfl rfl (Nat.le_of_ble_eq_true rfl) ?_
  refine J_eq rfl rfl rfl (wX_put11 _ _ _) ?_
  refine J_iconst (v := (0 : Int32)) d_XO_sort_15 (by decide) ?_
  refine J_istore_n d_XO_sort_16 (by decide) ?_
  refine JL_XO_sort_17 l _ _ r (fun s15 a16 o17 h => ?_) jF _ _ _ h
  refine J_aload_n d_XO_sort_84 rfl ?_
  refine J_get (j := 4) (v := .int (s15 11)) d_XO_sort_85 (wX_at11 _ _) rfl in_4 (by decide) ts_150 rfl ?_
  exact J_iret d_XO_sort_88 rfl rfl (by cases h; exact ⟨rfl, rfl⟩)
abbrev rm_X_run : Room := { frames := 8, cells := 0, slots := 0, locals := 177 }
abbrev K_X_run (l : Launch) := JW l vwCl NsG TsG "ClassifySort" prog_1_method_9_code 2 (some .int) rm_X_run
def m_X_run (s : jS) (a : jB) : Option (Int32 × jS × jB) := jb3 (m_XO_sort s a (s 0)) (fun v4 s2 a3 => some (v4, (upd (upd s2 2 ((s2 2) + v4)) 3 (1 : Int32)), a3))
set_option maxRecDepth 100000 in
set_option maxHeartbeats 4000000 in
theorem c_X_run (l : Launch) (s : jS) (a : jB) (r : Int32 × jS × jB) (h : m_X_run s a = some r) : JMet l vwCl NsG (.code y_X_run prog_1_method_9_code 2 (some .int) :: TsG) y_X_run rm_X_run [.ref 0] (wX s a) (fun v w => v = some (.int r.1) ∧ w = wX r.2.1 r.2.2) := by
  refine J_enter (by decide +kernel) rfl (Nat.le_of_ble_eq_true rfl) ?_
  unfold m_X_run at h
  refine J_eq (ls' := [some (.ref 0), none]) rfl rfl rfl rfl ?_
  refine J_aload_n d_X_run_0 rfl ?_
  refine J_get (j := 3) (v := .ref 11) d_X_run_1 (wX_at0 _ _) rfl in_0 (by decide) ts_147 rfl ?_
  refine J_aload_n d_X_run_4 rfl ?_
  refine J_get (j := 5) (v := .int (s 0)) d_X_run_5 (wX_at0 _ _) rfl in_0 (by decide) ts_0 rfl ?_
  obtain ⟨v4, s2, a3, e1, h⟩ := jb3_some h
  refine J_cVi1 d_X_run_8 (c_XO_sort l _ _ _ _ e1) (wX_at11 _ _) rfl ts_196 ts_good rfl rfl ts_160 ts_197 dy_XO_sort (by decide) (Nat.le_of_ble_eq_true rfl) ts_198 ts_199 ?_
  refine J_istore_n d_X_run_11 (by decide) ?_
  refine J_aload_n d_X_run_12 rfl ?_
  refine J_dup d_X_run_13 rfl ?_
  refine J_get (j := 7) (v := .int (s2 2)) d_X_run_14 (wX_at0 _ _) rfl in_0 (by decide) ts_200 rfl ?_
  refine J_iload_n d_X_run_17 rfl ?_
  refine J_iadd d_X_run_18 ?_
  refine J_put (j := 7) d_X_run_19 (wX_at0 _ _) rfl in_0 ty_X tyok_X nok_X (by decide) ts_200 rfl (tyok_X 7 (by decide)) rfl rfl (Nat.le_of_ble_eq_true rfl) ?_
  refine J_eq rfl rfl rfl (wX_put2 _ _ _) ?_
  refine J_aload_n d_X_run_22 rfl ?_
  refine J_iconst (v := (1 : Int32)) d_X_run_23 (by decide) ?_
  refine J_put (j := 8) d_X_run_24 (wX_at0 _ _) rfl in_0 ty_X tyok_X nok_X (by decide) ts_28 rfl (tyok_X 8 (by decide)) (by decide) (by decide) (Nat.le_of_ble_eq_true rfl) ?_
  refine J_eq rfl rfl rfl (wX_put3 _ _ _) ?_
  refine J_iload_n d_X_run_27 rfl ?_
  exact J_iret d_X_run_28 rfl rfl (by cases h; exact ⟨rfl, rfl⟩)
abbrev rm_XO_isEmptyClass : Room := { frames := 2, cells := 0, slots := 0, locals := 41 }
abbrev K_XO_isEmptyClass (l : Launch) := JW l vwCl NsG TsG "ClassifySort$Order" prog_4_method_4_code 2 (some .boolean) rm_XO_isEmptyClass
def m_XO_isEmptyClass (s : jS) (a : jB) (p0 : Int32) : Option (Int32) := jb (m_X_has (s 10) p0) (fun v2 => jg (jz v2) (some (v2)))
set_option maxRecDepth 100000 in
set_option maxHeartbeats 4000000 in
theorem c_XO_isEmptyClass (l : Launch) (s : jS) (a : jB) (p0 : Int32) (r : Int32) (h : m_XO_isEmptyClass s a p0 = some r) : JMet l vwCl NsG (.code y_XO_isEmptyClass prog_4_method_4_code 2 (some .boolean) :: TsG) y_XO_isEmptyClass rm_XO_isEmptyClass [.ref 11, .int p0] (wX s a) (fun v w => v = some (.int r) ∧ w = wX s a) := by
  refine J_enter (by decide +kernel) rfl (Nat.le_of_ble_eq_true rfl) ?_
  unfold m_XO_isEmptyClass at h
  refine J_eq (ls' := [some (.ref 11), some (.int p0)]) rfl rfl rfl rfl ?_
  refine J_aload_n d_XO_isEmptyClass_0 rfl ?_
  refine J_get (j := 3) (v := .int (s 10)) d_XO_isEmptyClass_1 (wX_at11 _ _) rfl in_4 (by decide) ts_149 rfl ?_
  refine J_iload_n d_XO_isEmptyClass_4 rfl ?_
  obtain ⟨v2, e1, h⟩ := jb_some h
  refine J_cSi2N d_XO_isEmptyClass_5 (c_X_has l _ _ _ _ e1) ts_8 ts_good rfl rfl ts_4 ns_6 dy_X_has (by decide) (Nat.le_of_ble_eq_true rfl) ts_9 ?_
  obtain ⟨g, h⟩ := jg_some h
  exact J_iret d_XO_isEmptyClass_8 rfl (jz_nar g) (by cases h; exact ⟨rfl, rfl⟩)
abbrev rm_XK_sameAs : Room := { frames := 0, cells := 0, slots := 0, locals := 0 }
abbrev K_XK_sameAs (l : Launch) := JW l vwCl NsG TsG "ClassifySort$Knowledge" prog_3_method_8_code 2 (some .int) rm_XK_sameAs
def m_XK_sameAs (s : jS) (a : jB) (p0 : Int32) : Option (Int32) := jg (jin p0 21) (jg (jin p0 21) (some ((((a 7) (p0).toNatClampNeg) &&& ((a 8) (p0).toNatClampNeg)))))
set_option maxRecDepth 100000 in
set_option maxHeartbeats 4000000 in
theorem c_XK_sameAs (l : Launch) (s : jS) (a : jB) (p0 : Int32) (r : Int32) (h : m_XK_sameAs s a p0 = some r) : JMet l vwCl NsG (.code y_XK_sameAs prog_3_method_8_code 2 (some .int) :: TsG) y_XK_sameAs rm_XK_sameAs [.ref 6, .int p0] (wX s a) (fun v w => v = some (.int r) ∧ w = wX s a) := by
  refine J_enter (by decide +kernel) rfl (Nat.le_of_ble_eq_true rfl) ?_
  unfold m_XK_sameAs at h
  refine J_eq (ls' := [some (.ref 6), some (.int p0)]) rfl rfl rfl rfl ?_
  refine J_aload_n d_XK_sameAs_0 rfl ?_
  refine J_get (j := 0) (v := .ref 7) d_XK_sameAs_1 (wX_at6 _ _) rfl in_3 (by decide) ts_2 rfl ?_
  refine J_iload_n d_XK_sameAs_4 rfl ?_
  obtain ⟨g, h⟩ := jg_some h
  refine J_iald (f := (a 7)) d_XK_sameAs_5 (wX_at7 _ _) (jin_in g) ?_
  refine J_aload_n d_XK_sameAs_6 rfl ?_
  refine J_get (j := 1) (v := .ref 8) d_XK_sameAs_7 (wX_at6 _ _) rfl in_3 (by decide) ts_6 rfl ?_
  refine J_iload_n d_XK_sameAs_10 rfl ?_
  obtain ⟨g, h⟩ := jg_some h
  refine J_iald (f := (a 8)) d_XK_sameAs_11 (wX_at8 _ _) (jin_in g) ?_
  refine J_iand d_XK_sameAs_12 ?_
  exact J_iret d_XK_sameAs_13 rfl rfl (by cases h; exact ⟨rfl, rfl⟩)
abbrev rm_XO_firstOfSame : Room := { frames := 2, cells := 0, slots := 0, locals := 41 }
abbrev K_XO_firstOfSame (l : Launch) := JW l vwCl NsG TsG "ClassifySort$Order" prog_4_method_15_code 4 (some .int) rm_XO_firstOfSame
def L_XO_firstOfSame_4 (s : jS) (a : jB) (c1 : Int32) (k54 : Int32 → Option (Int32)) : Nat → Int32 → Int32 → Option (Int32)
  | 0, _, _ => none
  | f + 1, x2, x3 => (if (20 : Int32) ≤ x3 then k54 (x2) else jb (m_X_has c1 x3) (fun v2 => (if v2 = (0 : Int32) then L_XO_firstOfSame_4 s a c1 k54 f (x2) ((x3 + (1 : Int32))) else jb (m_XK_sameAs s a x3) (fun v4 => jb (m_X_bit x3) (fun v6 => (if ((v4 &&& (s 9)) &&& (v6 - (1 : Int32))) = (0 : Int32) then jb (m_X_bit x3) (fun v8 => L_XO_firstOfSame_4 s a c1 k54 f ((x2 ||| v8)) ((x3 + (1 : Int32)))) else L_XO_firstOfSame_4 s a c1 k54 f (x2) ((x3 + (1 : Int32)))))))))
set_option maxRecDepth 100000 in
set_option maxHeartbeats 4000000 in
theorem JL_XO_firstOfSame_4 (l : Launch) (s : jS) (a : jB) (c1 : Int32) (k54 : Int32 → Option (Int32)) (r : Int32) (hk54 : ∀ (x2 : Int32) (o3 : Option Value), k54 x2 = some r → K_XO_firstOfSame l 54 [some (.ref 11), some (.int c1), some (.int x2), o3] [] (wX s a) (fun v w => v = some (.int r) ∧ w = wX s a)) : ∀ (f : Nat), ∀ (x2 : Int32) (x3 : Int32), L_XO_firstOfSame_4 s a c1 k54 f x2 x3 = some r → K_XO_firstOfSame l 4 [some (.ref 11), some (.int c1), some (.int x2), some (.int x3)] [] (wX s a) (fun v w => v = some (.int r) ∧ w = wX s a) := by
  intro f
  induction f with
  | zero =>
    intro x2 x3 h
    cases h
  | succ f ih =>
    intro x2 x3 h
    rw [L_XO_firstOfSame_4] at h
    refine J_iload_n d_XO_firstOfSame_4 rfl ?_
    refine J_bipush (v := (20 : Int32)) d_XO_firstOfSame_5 (by decide) ?_
    refine J_icmp_ge (tgt := 54) d_XO_firstOfSame_7 (by decide) (fun c => ?_) (fun c => ?_)
    · have h := j_ifp c h
      exact hk54 _ _ h
    · have h := j_ifn c h
      refine J_iload_n d_XO_firstOfSame_10 rfl ?_
      refine J_iload_n d_XO_firstOfSame_11 rfl ?_
      obtain ⟨v2, e1, h⟩ := jb_some h
      refine J_cSi2N d_XO_firstOfSame_12 (c_X_has l _ _ _ _ e1) ts_8 ts_good rfl rfl ts_4 ns_6 dy_X_has (by decide) (Nat.le_of_ble_eq_true rfl) ts_9 ?_
      refine J_if_eq (tgt := 48) d_XO_firstOfSame_15 (by decide) (fun c => ?_) (fun c => ?_)
      · have h := j_ifp c h
        refine J_iinc (v := (x3 + (1 : Int32))) d_XO_firstOfSame_48 rfl (by first | rfl | decide) (by decide) ?_
        refine J_goto (tgt := 4) d_XO_firstOfSame_51 (by decide) ?_
        exact ih _ _ h
      · have h := j_ifn c h
        refine J_aload_n d_XO_firstOfSame_18 rfl ?_
        refine J_get (j := 0) (v := .ref 6) d_XO_firstOfSame_19 (wX_at11 _ _) rfl in_4 (by decide) ts_151 rfl ?_
        refine J_iload_n d_XO_firstOfSame_22 rfl ?_
        obtain ⟨v4, e3, h⟩ := jb_some h
        refine J_cVi1 d_XO_firstOfSame_23 (c_XK_sameAs l _ _ _ _ e3) (wX_at6 _ _) rfl ts_205 ts_good rfl rfl ts_11 ts_206 dy_XK_sameAs (by decide) (Nat.le_of_ble_eq_true rfl) ts_207 ts_208 ?_
        refine J_aload_n d_XO_firstOfSame_26 rfl ?_
        refine J_get (j := 2) (v := .int (s 9)) d_XO_firstOfSame_27 (wX_at11 _ _) rfl in_4 (by decide) ts_148 rfl ?_
        refine J_iand d_XO_firstOfSame_30 ?_
        refine J_iload_n d_XO_firstOfSame_31 rfl ?_
        obtain ⟨v6, e5, h⟩ := jb_some h
        refine J_cSi1N d_XO_firstOfSame_32 (c_X_bit l _ _ _ e5) ts_3 ts_good rfl rfl ts_4 ns_5 dy_X_bit (by decide) (Nat.le_of_ble_eq_true rfl) ts_5 ?_
        refine J_iconst (v := (1 : Int32)) d_XO_firstOfSame_35 (by decide) ?_
        refine J_isub d_XO_firstOfSame_36 ?_
        refine J_iand d_XO_firstOfSame_37 ?_
        refine J_if_ne (tgt := 48) d_XO_firstOfSame_38 (by decide) (fun c => ?_) (fun c => ?_)
        · have h := j_ifn c h
          refine J_iinc (v := (x3 + (1 : Int32))) d_XO_firstOfSame_48 rfl (by first | rfl | decide) (by decide) ?_
          refine J_goto (tgt := 4) d_XO_firstOfSame_51 (by decide) ?_
          exact ih _ _ h
        · have h := j_ifp c h
          refine J_iload_n d_XO_firstOfSame_41 rfl ?_
          refine J_iload_n d_XO_firstOfSame_42 rfl ?_
          obtain ⟨v8, e7, h⟩ := jb_some h
          refine J_cSi1N d_XO_firstOfSame_43 (c_X_bit l _ _ _ e7) ts_3 ts_good rfl rfl ts_4 ns_5 dy_X_bit (by decide) (Nat.le_of_ble_eq_true rfl) ts_5 ?_
          refine J_ior d_XO_firstOfSame_46 ?_
          refine J_istore_n d_XO_firstOfSame_47 (by decide) ?_
          refine J_iinc (v := (x3 + (1 : Int32))) d_XO_firstOfSame_48 rfl (by first | rfl | decide) (by decide) ?_
          refine J_goto (tgt := 4) d_XO_firstOfSame_51 (by decide) ?_
          exact ih _ _ h
def m_XO_firstOfSame (s : jS) (a : jB) (p0 : Int32) : Option (Int32) := L_XO_firstOfSame_4 (s) (a) (p0) (fun x9 => some (x9)) jF ((0 : Int32)) ((0 : Int32))
set_option maxRecDepth 100000 in
set_option maxHeartbeats 4000000 in
theorem c_XO_firstOfSame (l : Launch) (s : jS) (a : jB) (p0 : Int32) (r : Int32) (h : m_XO_firstOfSame s a p0 = some r) : JMet l vwCl NsG (.code y_XO_firstOfSame prog_4_method_15_code 4 (some .int) :: TsG) y_XO_firstOfSame rm_XO_firstOfSame [.ref 11, .int p0] (wX s a) (fun v w => v = some (.int r) ∧ w = wX s a) := by
  refine J_enter (by decide +kernel) rfl (Nat.le_of_ble_eq_true rfl) ?_
  unfold m_XO_firstOfSame at h
  refine J_eq (ls' := [some (.ref 11), some (.int p0), none, none]) rfl rfl rfl rfl ?_
  refine J_iconst (v := (0 : Int32)) d_XO_firstOfSame_0 (by decide) ?_
  refine J_istore_n d_XO_firstOfSame_1 (by decide) ?_
  refine J_iconst (v := (0 : Int32)) d_XO_firstOfSame_2 (by decide) ?_
  refine J_istore_n d_XO_firstOfSame_3 (by decide) ?_
  refine JL_XO_firstOfSame_4 l _ _ _ _ r (fun x9 o10 h => ?_) jF _ _ h
  refine J_iload_n d_XO_firstOfSame_54 rfl ?_
  exact J_iret d_XO_firstOfSame_55 rfl rfl (by cases h; exact ⟨rfl, rfl⟩)
abbrev rm_X_pick : Room := { frames := 2, cells := 0, slots := 0, locals := 41 }
abbrev K_X_pick (l : Launch) := JW l vwCl NsG TsG "ClassifySort" prog_1_method_26_code 4 (some .int) rm_X_pick
def L_X_pick_4 (c0 : Int32) (k33 : Unit → Option (Int32)) : Nat → Int32 → Int32 → Option (Int32)
  | 0, _, _ => none
  | f + 1, x2, x3 => (if (21 : Int32) ≤ x3 then k33 () else jb (m_X_has c0 x3) (fun v2 => (if v2 = (0 : Int32) then L_X_pick_4 c0 k33 f (x2) ((x3 + (1 : Int32))) else (if x2 = (0 : Int32) then some (x3) else L_X_pick_4 c0 k33 f ((x2 + (-1 : Int32))) ((x3 + (1 : Int32)))))))
set_option maxRecDepth 100000 in
set_option maxHeartbeats 4000000 in
theorem JL_X_pick_4 (l : Launch) (ws : jW) (c0 : Int32) (k33 : Unit → Option (Int32)) (r : Int32) (hk33 : ∀ (_ : Unit) (o1 : Option Value) (o2 : Option Value) (o3 : Option Value), k33 () = some r → K_X_pick l 33 [some (.int c0), o1, o2, o3] [] ws (fun v w => v = some (.int r) ∧ w = ws)) : ∀ (f : Nat), ∀ (x2 : Int32) (x3 : Int32) (o1 : Option Value), L_X_pick_4 c0 k33 f x2 x3 = some r → K_X_pick l 4 [some (.int c0), o1, some (.int x2), some (.int x3)] [] ws (fun v w => v = some (.int r) ∧ w = ws) := by
  intro f
  induction f with
  | zero =>
    intro x2 x3 o1 h
    cases h
  | succ f ih =>
    intro x2 x3 o1 h
    rw [L_X_pick_4] at h
    refine J_iload_n d_X_pick_4 rfl ?_
    refine J_bipush (v := (21 : Int32)) d_X_pick_5 (by decide) ?_
    refine J_icmp_ge (tgt := 33) d_X_pick_7 (by decide) (fun c => ?_) (fun c => ?_)
    · have h := j_ifp c h
      exact hk33 () _ _ _ h
    · have h := j_ifn c h
      refine J_iload_n d_X_pick_10 rfl ?_
      refine J_iload_n d_X_pick_11 rfl ?_
      obtain ⟨v2, e1, h⟩ := jb_some h
      refine J_cSi2 d_X_pick_12 (c_X_has l _ _ _ _ e1) ts_8 ts_good rfl rfl ts_4 ts_213 dy_X_has (by decide) (Nat.le_of_ble_eq_true rfl) ts_9 ?_
      refine J_if_eq (tgt := 27) d_X_pick_15 (by decide) (fun c => ?_) (fun c => ?_)
      · have h := j_ifp c h
        refine J_iinc (v := (x3 + (1 : Int32))) d_X_pick_27 rfl (by first | rfl | decide) (by decide) ?_
        refine J_goto (tgt := 4) d_X_pick_30 (by decide) ?_
        exact ih _ _ _ h
      · have h := j_ifn c h
        refine J_iload_n d_X_pick_18 rfl ?_
        refine J_if_ne (tgt := 24) d_X_pick_19 (by decide) (fun c => ?_) (fun c => ?_)
        · have h := j_ifn c h
          refine J_iinc (v := (x2 + (-1 : Int32))) d_X_pick_24 rfl (by first | rfl | decide) (by decide) ?_
          refine J_iinc (v := (x3 + (1 : Int32))) d_X_pick_27 rfl (by first | rfl | decide) (by decide) ?_
          refine J_goto (tgt := 4) d_X_pick_30 (by decide) ?_
          exact ih _ _ _ h
        · have h := j_ifp c h
          refine J_iload_n d_X_pick_22 rfl ?_
          exact J_iret d_X_pick_23 rfl rfl (by cases h; exact ⟨rfl, rfl⟩)
def m_X_pick (p0 : Int32) (p1 : Int32) : Option (Int32) := L_X_pick_4 (p0) (fun _ => some ((-6 : Int32))) jF (p1) ((0 : Int32))
set_option maxRecDepth 100000 in
set_option maxHeartbeats 4000000 in
theorem c_X_pick (l : Launch) (ws : jW) (p0 : Int32) (p1 : Int32) (r : Int32) (h : m_X_pick p0 p1 = some r) : JMet l vwCl NsG (.code y_X_pick prog_1_method_26_code 4 (some .int) :: TsG) y_X_pick rm_X_pick [.int p0, .int p1] ws (fun v w => v = some (.int r) ∧ w = ws) := by
  refine J_enter (by decide +kernel) rfl (Nat.le_of_ble_eq_true rfl) ?_
  unfold m_X_pick at h
  refine J_eq (ls' := [some (.int p0), some (.int p1), none, none]) rfl rfl rfl rfl ?_
  refine J_iload_n d_X_pick_0 rfl ?_
  refine J_istore_n d_X_pick_1 (by decide) ?_
  refine J_iconst (v := (0 : Int32)) d_X_pick_2 (by decide) ?_
  refine J_istore_n d_X_pick_3 (by decide) ?_
  refine JL_X_pick_4 l _ _ _ r (fun _ o3 o4 o5 h => ?_) jF _ _ _ h
  refine J_bipush (v := (-6 : Int32)) d_X_pick_33 (by decide) ?_
  exact J_iret d_X_pick_35 rfl rfl (by cases h; exact ⟨rfl, rfl⟩)
abbrev rm_XO_directlyAbove : Room := { frames := 2, cells := 0, slots := 0, locals := 41 }
abbrev K_XO_directlyAbove (l : Launch) := JW l vwCl NsG TsG "ClassifySort$Order" prog_4_method_11_code 5 (some .int) rm_XO_directlyAbove
def L_XO_directlyAbove_19 (s : jS) (a : jB) (c2 : Int32) (k63 : Int32 → Option (Int32)) : Nat → Int32 → Int32 → Option (Int32)
  | 0, _, _ => none
  | f + 1, x3, x4 => (if (20 : Int32) ≤ x4 then k63 (x3) else jb (m_X_has c2 x4) (fun v4 => (if v4 = (0 : Int32) then L_XO_directlyAbove_19 s a c2 k63 f (x3) ((x4 + (1 : Int32))) else jb (m_XK_strictlyBelow s a x4) (fun v6 => (if (c2 &&& v6) = (0 : Int32) then jb (m_X_bit x4) (fun v8 => L_XO_directlyAbove_19 s a c2 k63 f ((x3 ||| v8)) ((x4 + (1 : Int32)))) else L_XO_directlyAbove_19 s a c2 k63 f (x3) ((x4 + (1 : Int32))))))))
set_option maxRecDepth 100000 in
set_option maxHeartbeats 4000000 in
theorem JL_XO_directlyAbove_19 (l : Launch) (s : jS) (a : jB) (c2 : Int32) (k63 : Int32 → Option (Int32)) (r : Int32) (hk63 : ∀ (x3 : Int32) (o1 : Option Value) (o4 : Option Value), k63 x3 = some r → K_XO_directlyAbove l 63 [some (.ref 11), o1, some (.int c2), some (.int x3), o4] [] (wX s a) (fun v w => v = some (.int r) ∧ w = wX s a)) : ∀ (f : Nat), ∀ (x3 : Int32) (x4 : Int32) (o1 : Option Value), L_XO_directlyAbove_19 s a c2 k63 f x3 x4 = some r → K_XO_directlyAbove l 19 [some (.ref 11), o1, some (.int c2), some (.int x3), some (.int x4)] [] (wX s a) (fun v w => v = some (.int r) ∧ w = wX s a) := by
  intro f
  induction f with
  | zero =>
    intro x3 x4 o1 h
    cases h
  | succ f ih =>
    intro x3 x4 o1 h
    rw [L_XO_directlyAbove_19] at h
    refine J_iload d_XO_directlyAbove_19 rfl ?_
    refine J_bipush (v := (20 : Int32)) d_XO_directlyAbove_21 (by decide) ?_
    refine J_icmp_ge (tgt := 63) d_XO_directlyAbove_23 (by decide) (fun c => ?_) (fun c => ?_)
    · have h := j_ifp c h
      exact hk63 _ _ _ h
    · have h := j_ifn c h
      refine J_iload_n d_XO_directlyAbove_26 rfl ?_
      refine J_iload d_XO_directlyAbove_27 rfl ?_
      obtain ⟨v4, e3, h⟩ := jb_some h
      refine J_cSi2N d_XO_directlyAbove_29 (c_X_has l _ _ _ _ e3) ts_8 ts_good rfl rfl ts_4 ns_6 dy_X_has (by decide) (Nat.le_of_ble_eq_true rfl) ts_9 ?_
      refine J_if_eq (tgt := 57) d_XO_directlyAbove_32 (by decide) (fun c => ?_) (fun c => ?_)
      · have h := j_ifp c h
        refine J_iinc (v := (x4 + (1 : Int32))) d_XO_directlyAbove_57 rfl (by first | rfl | decide) (by decide) ?_
        refine J_goto (tgt := 19) d_XO_directlyAbove_60 (by decide) ?_
        exact ih _ _ _ h
      · have h := j_ifn c h
        refine J_iload_n d_XO_directlyAbove_35 rfl ?_
        refine J_aload_n d_XO_directlyAbove_36 rfl ?_
        refine J_get (j := 0) (v := .ref 6) d_XO_directlyAbove_37 (wX_at11 _ _) rfl in_4 (by decide) ts_151 rfl ?_
        refine J_iload d_XO_directlyAbove_40 rfl ?_
        obtain ⟨v6, e5, h⟩ := jb_some h
        refine J_cVi1 d_XO_directlyAbove_42 (c_XK_strictlyBelow l _ _ _ _ e5) (wX_at6 _ _) rfl ts_184 ts_good rfl rfl ts_11 ts_185 dy_XK_strictlyBelow (by decide) (Nat.le_of_ble_eq_true rfl) ts_186 ts_187 ?_
        refine J_iand d_XO_directlyAbove_45 ?_
        refine J_if_ne (tgt := 57) d_XO_directlyAbove_46 (by decide) (fun c => ?_) (fun c => ?_)
        · have h := j_ifn c h
          refine J_iinc (v := (x4 + (1 : Int32))) d_XO_directlyAbove_57 rfl (by first | rfl | decide) (by decide) ?_
          refine J_goto (tgt := 19) d_XO_directlyAbove_60 (by decide) ?_
          exact ih _ _ _ h
        · have h := j_ifp c h
          refine J_iload_n d_XO_directlyAbove_49 rfl ?_
          refine J_iload d_XO_directlyAbove_50 rfl ?_
          obtain ⟨v8, e7, h⟩ := jb_some h
          refine J_cSi1N d_XO_directlyAbove_52 (c_X_bit l _ _ _ e7) ts_3 ts_good rfl rfl ts_4 ns_5 dy_X_bit (by decide) (Nat.le_of_ble_eq_true rfl) ts_5 ?_
          refine J_ior d_XO_directlyAbove_55 ?_
          refine J_istore_n d_XO_directlyAbove_56 (by decide) ?_
          refine J_iinc (v := (x4 + (1 : Int32))) d_XO_directlyAbove_57 rfl (by first | rfl | decide) (by decide) ?_
          refine J_goto (tgt := 19) d_XO_directlyAbove_60 (by decide) ?_
          exact ih _ _ _ h
def m_XO_directlyAbove (s : jS) (a : jB) (p0 : Int32) : Option (Int32) := jb (m_XK_strictlyAbove s a p0) (fun v2 => L_XO_directlyAbove_19 (s) (a) ((v2 &&& (s 9))) (fun x9 => some (x9)) jF ((0 : Int32)) ((0 : Int32)))
set_option maxRecDepth 100000 in
set_option maxHeartbeats 4000000 in
theorem c_XO_directlyAbove (l : Launch) (s : jS) (a : jB) (p0 : Int32) (r : Int32) (h : m_XO_directlyAbove s a p0 = some r) : JMet l vwCl NsG (.code y_XO_directlyAbove prog_4_method_11_code 5 (some .int) :: TsG) y_XO_directlyAbove rm_XO_directlyAbove [.ref 11, .int p0] (wX s a) (fun v w => v = some (.int r) ∧ w = wX s a) := by
  refine J_enter (by decide +kernel) rfl (Nat.le_of_ble_eq_true rfl) ?_
  unfold m_XO_directlyAbove at h
  refine J_eq (ls' := [some (.ref 11), some (.int p0), none, none, none]) rfl rfl rfl rfl ?_
  refine J_aload_n d_XO_directlyAbove_0 rfl ?_
  refine J_get (j := 0) (v := .ref 6) d_XO_directlyAbove_1 (wX_at11 _ _) rfl in_4 (by decide) ts_151 rfl ?_
  refine J_iload_n d_XO_directlyAbove_4 rfl ?_
  obtain ⟨v2, e1, h⟩ := jb_some h
  refine J_cVi1 d_XO_directlyAbove_5 (c_XK_strictlyAbove l _ _ _ _ e1) (wX_at6 _ _) rfl ts_168 ts_good rfl rfl ts_11 ts_169 dy_XK_strictlyAbove (by decide) (Nat.le_of_ble_eq_true rfl) ts_170 ts_171 ?_
  refine J_aload_n d_XO_directlyAbove_8 rfl ?_
  refine J_get (j := 2) (v := .int (s 9)) d_XO_directlyAbove_9 (wX_at11 _ _) rfl in_4 (by decide) ts_148 rfl ?_
  refine J_iand d_XO_directlyAbove_12 ?_
  refine J_istore_n d_XO_directlyAbove_13 (by decide) ?_
  refine J_iconst (v := (0 : Int32)) d_XO_directlyAbove_14 (by decide) ?_
  refine J_istore_n d_XO_directlyAbove_15 (by decide) ?_
  refine J_iconst (v := (0 : Int32)) d_XO_directlyAbove_16 (by decide) ?_
  refine J_istore d_XO_directlyAbove_17 (by decide) ?_
  refine JL_XO_directlyAbove_19 l _ _ _ _ r (fun x9 o10 o11 h => ?_) jF _ _ _ h
  refine J_iload_n d_XO_directlyAbove_63 rfl ?_
  exact J_iret d_XO_directlyAbove_64 rfl rfl (by cases h; exact ⟨rfl, rfl⟩)
abbrev rm_XO_directlyBelow : Room := { frames := 2, cells := 0, slots := 0, locals := 41 }
abbrev K_XO_directlyBelow (l : Launch) := JW l vwCl NsG TsG "ClassifySort$Order" prog_4_method_12_code 5 (some .int) rm_XO_directlyBelow
def L_XO_directlyBelow_19 (s : jS) (a : jB) (c2 : Int32) (k63 : Int32 → Option (Int32)) : Nat → Int32 → Int32 → Option (Int32)
  | 0, _, _ => none
  | f + 1, x3, x4 => (if (20 : Int32) ≤ x4 then k63 (x3) else jb (m_X_has c2 x4) (fun v4 => (if v4 = (0 : Int32) then L_XO_directlyBelow_19 s a c2 k63 f (x3) ((x4 + (1 : Int32))) else jb (m_XK_strictlyAbove s a x4) (fun v6 => (if (c2 &&& v6) = (0 : Int32) then jb (m_X_bit x4) (fun v8 => L_XO_directlyBelow_19 s a c2 k63 f ((x3 ||| v8)) ((x4 + (1 : Int32)))) else L_XO_directlyBelow_19 s a c2 k63 f (x3) ((x4 + (1 : Int32))))))))
set_option maxRecDepth 100000 in
set_option maxHeartbeats 4000000 in
theorem JL_XO_directlyBelow_19 (l : Launch) (s : jS) (a : jB) (c2 : Int32) (k63 : Int32 → Option (Int32)) (r : Int32) (hk63 : ∀ (x3 : Int32) (o1 : Option Value) (o4 : Option Value), k63 x3 = some r → K_XO_directlyBelow l 63 [some (.ref 11), o1, some (.int c2), some (.int x3), o4] [] (wX s a) (fun v w => v = some (.int r) ∧ w = wX s a)) : ∀ (f : Nat), ∀ (x3 : Int32) (x4 : Int32) (o1 : Option Value), L_XO_directlyBelow_19 s a c2 k63 f x3 x4 = some r → K_XO_directlyBelow l 19 [some (.ref 11), o1, some (.int c2), some (.int x3), some (.int x4)] [] (wX s a) (fun v w => v = some (.int r) ∧ w = wX s a) := by
  intro f
  induction f with
  | zero =>
    intro x3 x4 o1 h
    cases h
  | succ f ih =>
    intro x3 x4 o1 h
    rw [L_XO_directlyBelow_19] at h
    refine J_iload d_XO_directlyBelow_19 rfl ?_
    refine J_bipush (v := (20 : Int32)) d_XO_directlyBelow_21 (by decide) ?_
    refine J_icmp_ge (tgt := 63) d_XO_directlyBelow_23 (by decide) (fun c => ?_) (fun c => ?_)
    · have h := j_ifp c h
      exact hk63 _ _ _ h
    · have h := j_ifn c h
      refine J_iload_n d_XO_directlyBelow_26 rfl ?_
      refine J_iload d_XO_directlyBelow_27 rfl ?_
      obtain ⟨v4, e3, h⟩ := jb_some h
      refine J_cSi2N d_XO_directlyBelow_29 (c_X_has l _ _ _ _ e3) ts_8 ts_good rfl rfl ts_4 ns_6 dy_X_has (by decide) (Nat.le_of_ble_eq_true rfl) ts_9 ?_
      refine J_if_eq (tgt := 57) d_XO_directlyBelow_32 (by decide) (fun c => ?_) (fun c => ?_)
      · have h := j_ifp c h
        refine J_iinc (v := (x4 + (1 : Int32))) d_XO_directlyBelow_57 rfl (by first | rfl | decide) (by decide) ?_
        refine J_goto (tgt := 19) d_XO_directlyBelow_60 (by decide) ?_
        exact ih _ _ _ h
      · have h := j_ifn c h
        refine J_iload_n d_XO_directlyBelow_35 rfl ?_
        refine J_aload_n d_XO_directlyBelow_36 rfl ?_
        refine J_get (j := 0) (v := .ref 6) d_XO_directlyBelow_37 (wX_at11 _ _) rfl in_4 (by decide) ts_151 rfl ?_
        refine J_iload d_XO_directlyBelow_40 rfl ?_
        obtain ⟨v6, e5, h⟩ := jb_some h
        refine J_cVi1 d_XO_directlyBelow_42 (c_XK_strictlyAbove l _ _ _ _ e5) (wX_at6 _ _) rfl ts_168 ts_good rfl rfl ts_11 ts_169 dy_XK_strictlyAbove (by decide) (Nat.le_of_ble_eq_true rfl) ts_170 ts_171 ?_
        refine J_iand d_XO_directlyBelow_45 ?_
        refine J_if_ne (tgt := 57) d_XO_directlyBelow_46 (by decide) (fun c => ?_) (fun c => ?_)
        · have h := j_ifn c h
          refine J_iinc (v := (x4 + (1 : Int32))) d_XO_directlyBelow_57 rfl (by first | rfl | decide) (by decide) ?_
          refine J_goto (tgt := 19) d_XO_directlyBelow_60 (by decide) ?_
          exact ih _ _ _ h
        · have h := j_ifp c h
          refine J_iload_n d_XO_directlyBelow_49 rfl ?_
          refine J_iload d_XO_directlyBelow_50 rfl ?_
          obtain ⟨v8, e7, h⟩ := jb_some h
          refine J_cSi1N d_XO_directlyBelow_52 (c_X_bit l _ _ _ e7) ts_3 ts_good rfl rfl ts_4 ns_5 dy_X_bit (by decide) (Nat.le_of_ble_eq_true rfl) ts_5 ?_
          refine J_ior d_XO_directlyBelow_55 ?_
          refine J_istore_n d_XO_directlyBelow_56 (by decide) ?_
          refine J_iinc (v := (x4 + (1 : Int32))) d_XO_directlyBelow_57 rfl (by first | rfl | decide) (by decide) ?_
          refine J_goto (tgt := 19) d_XO_directlyBelow_60 (by decide) ?_
          exact ih _ _ _ h
def m_XO_directlyBelow (s : jS) (a : jB) (p0 : Int32) : Option (Int32) := jb (m_XK_strictlyBelow s a p0) (fun v2 => L_XO_directlyBelow_19 (s) (a) ((v2 &&& (s 9))) (fun x9 => some (x9)) jF ((0 : Int32)) ((0 : Int32)))
set_option maxRecDepth 100000 in
set_option maxHeartbeats 4000000 in
theorem c_XO_directlyBelow (l : Launch) (s : jS) (a : jB) (p0 : Int32) (r : Int32) (h : m_XO_directlyBelow s a p0 = some r) : JMet l vwCl NsG (.code y_XO_directlyBelow prog_4_method_12_code 5 (some .int) :: TsG) y_XO_directlyBelow rm_XO_directlyBelow [.ref 11, .int p0] (wX s a) (fun v w => v = some (.int r) ∧ w = wX s a) := by
  refine J_enter (by decide +kernel) rfl (Nat.le_of_ble_eq_true rfl) ?_
  unfold m_XO_directlyBelow at h
  refine J_eq (ls' := [some (.ref 11), some (.int p0), none, none, none]) rfl rfl rfl rfl ?_
  refine J_aload_n d_XO_directlyBelow_0 rfl ?_
  refine J_get (j := 0) (v := .ref 6) d_XO_directlyBelow_1 (wX_at11 _ _) rfl in_4 (by decide) ts_151 rfl ?_
  refine J_iload_n d_XO_directlyBelow_4 rfl ?_
  obtain ⟨v2, e1, h⟩ := jb_some h
  refine J_cVi1 d_XO_directlyBelow_5 (c_XK_strictlyBelow l _ _ _ _ e1) (wX_at6 _ _) rfl ts_184 ts_good rfl rfl ts_11 ts_185 dy_XK_strictlyBelow (by decide) (Nat.le_of_ble_eq_true rfl) ts_186 ts_187 ?_
  refine J_aload_n d_XO_directlyBelow_8 rfl ?_
  refine J_get (j := 2) (v := .int (s 9)) d_XO_directlyBelow_9 (wX_at11 _ _) rfl in_4 (by decide) ts_148 rfl ?_
  refine J_iand d_XO_directlyBelow_12 ?_
  refine J_istore_n d_XO_directlyBelow_13 (by decide) ?_
  refine J_iconst (v := (0 : Int32)) d_XO_directlyBelow_14 (by decide) ?_
  refine J_istore_n d_XO_directlyBelow_15 (by decide) ?_
  refine J_iconst (v := (0 : Int32)) d_XO_directlyBelow_16 (by decide) ?_
  refine J_istore d_XO_directlyBelow_17 (by decide) ?_
  refine JL_XO_directlyBelow_19 l _ _ _ _ r (fun x9 o10 o11 h => ?_) jF _ _ _ h
  refine J_iload_n d_XO_directlyBelow_63 rfl ?_
  exact J_iret d_XO_directlyBelow_64 rfl rfl (by cases h; exact ⟨rfl, rfl⟩)
abbrev rm_XO_lowestAmong : Room := { frames := 3, cells := 0, slots := 0, locals := 65 }
abbrev K_XO_lowestAmong (l : Launch) := JW l vwCl NsG TsG "ClassifySort$Order" prog_4_method_14_code 4 (some .int) rm_XO_lowestAmong
def L_XO_lowestAmong_4 (s : jS) (a : jB) (c1 : Int32) (k46 : Int32 → Option (Int32)) : Nat → Int32 → Int32 → Option (Int32)
  | 0, _, _ => none
  | f + 1, x2, x3 => (if (20 : Int32) ≤ x3 then k46 (x2) else jb (m_X_has (c1 &&& (s 9)) x3) (fun v2 => (if v2 = (0 : Int32) then L_XO_lowestAmong_4 s a c1 k46 f (x2) ((x3 + (1 : Int32))) else jb (m_XO_directlyBelow s a x3) (fun v4 => (if (v4 &&& c1) = (0 : Int32) then jb (m_X_bit x3) (fun v6 => L_XO_lowestAmong_4 s a c1 k46 f ((x2 ||| v6)) ((x3 + (1 : Int32)))) else L_XO_lowestAmong_4 s a c1 k46 f (x2) ((x3 + (1 : Int32))))))))
set_option maxRecDepth 100000 in
set_option maxHeartbeats 4000000 in
theorem JL_XO_lowestAmong_4 (l : Launch) (s : jS) (a : jB) (c1 : Int32) (k46 : Int32 → Option (Int32)) (r : Int32) (hk46 : ∀ (x2 : Int32) (o3 : Option Value), k46 x2 = some r → K_XO_lowestAmong l 46 [some (.ref 11), some (.int c1), some (.int x2), o3] [] (wX s a) (fun v w => v = some (.int r) ∧ w = wX s a)) : ∀ (f : Nat), ∀ (x2 : Int32) (x3 : Int32), L_XO_lowestAmong_4 s a c1 k46 f x2 x3 = some r → K_XO_lowestAmong l 4 [some (.ref 11), some (.int c1), some (.int x2), some (.int x3)] [] (wX s a) (fun v w => v = some (.int r) ∧ w = wX s a) := by
  intro f
  induction f with
  | zero =>
    intro x2 x3 h
    cases h
  | succ f ih =>
    intro x2 x3 h
    rw [L_XO_lowestAmong_4] at h
    refine J_iload_n d_XO_lowestAmong_4 rfl ?_
    refine J_bipush (v := (20 : Int32)) d_XO_lowestAmong_5 (by decide) ?_
    refine J_icmp_ge (tgt := 46) d_XO_lowestAmong_7 (by decide) (fun c => ?_) (fun c => ?_)
    · have h := j_ifp c h
      exact hk46 _ _ h
    · have h := j_ifn c h
      refine J_iload_n d_XO_lowestAmong_10 rfl ?_
      refine J_aload_n d_XO_lowestAmong_11 rfl ?_
      refine J_get (j := 2) (v := .int (s 9)) d_XO_lowestAmong_12 (wX_at11 _ _) rfl in_4 (by decide) ts_148 rfl ?_
      refine J_iand d_XO_lowestAmong_15 ?_
      refine J_iload_n d_XO_lowestAmong_16 rfl ?_
      obtain ⟨v2, e1, h⟩ := jb_some h
      refine J_cSi2N d_XO_lowestAmong_17 (c_X_has l _ _ _ _ e1) ts_8 ts_good rfl rfl ts_4 ns_6 dy_X_has (by decide) (Nat.le_of_ble_eq_true rfl) ts_9 ?_
      refine J_if_eq (tgt := 40) d_XO_lowestAmong_20 (by decide) (fun c => ?_) (fun c => ?_)
      · have h := j_ifp c h
        refine J_iinc (v := (x3 + (1 : Int32))) d_XO_lowestAmong_40 rfl (by first | rfl | decide) (by decide) ?_
        refine J_goto (tgt := 4) d_XO_lowestAmong_43 (by decide) ?_
        exact ih _ _ h
      · have h := j_ifn c h
        refine J_aload_n d_XO_lowestAmong_23 rfl ?_
        refine J_iload_n d_XO_lowestAmong_24 rfl ?_
        obtain ⟨v4, e3, h⟩ := jb_some h
        refine J_cVi1 d_XO_lowestAmong_25 (c_XO_directlyBelow l _ _ _ _ e3) (wX_at11 _ _) rfl ts_221 ts_good rfl rfl ts_160 ts_222 dy_XO_directlyBelow (by decide) (Nat.le_of_ble_eq_true rfl) ts_223 ts_224 ?_
        refine J_iload_n d_XO_lowestAmong_28 rfl ?_
        refine J_iand d_XO_lowestAmong_29 ?_
        refine J_if_ne (tgt := 40) d_XO_lowestAmong_30 (by decide) (fun c => ?_) (fun c => ?_)
        · have h := j_ifn c h
          refine J_iinc (v := (x3 + (1 : Int32))) d_XO_lowestAmong_40 rfl (by first | rfl | decide) (by decide) ?_
          refine J_goto (tgt := 4) d_XO_lowestAmong_43 (by decide) ?_
          exact ih _ _ h
        · have h := j_ifp c h
          refine J_iload_n d_XO_lowestAmong_33 rfl ?_
          refine J_iload_n d_XO_lowestAmong_34 rfl ?_
          obtain ⟨v6, e5, h⟩ := jb_some h
          refine J_cSi1N d_XO_lowestAmong_35 (c_X_bit l _ _ _ e5) ts_3 ts_good rfl rfl ts_4 ns_5 dy_X_bit (by decide) (Nat.le_of_ble_eq_true rfl) ts_5 ?_
          refine J_ior d_XO_lowestAmong_38 ?_
          refine J_istore_n d_XO_lowestAmong_39 (by decide) ?_
          refine J_iinc (v := (x3 + (1 : Int32))) d_XO_lowestAmong_40 rfl (by first | rfl | decide) (by decide) ?_
          refine J_goto (tgt := 4) d_XO_lowestAmong_43 (by decide) ?_
          exact ih _ _ h
def m_XO_lowestAmong (s : jS) (a : jB) (p0 : Int32) : Option (Int32) := L_XO_lowestAmong_4 (s) (a) (p0) (fun x7 => some (x7)) jF ((0 : Int32)) ((0 : Int32))
set_option maxRecDepth 100000 in
set_option maxHeartbeats 4000000 in
theorem c_XO_lowestAmong (l : Launch) (s : jS) (a : jB) (p0 : Int32) (r : Int32) (h : m_XO_lowestAmong s a p0 = some r) : JMet l vwCl NsG (.code y_XO_lowestAmong prog_4_method_14_code 4 (some .int) :: TsG) y_XO_lowestAmong rm_XO_lowestAmong [.ref 11, .int p0] (wX s a) (fun v w => v = some (.int r) ∧ w = wX s a) := by
  refine J_enter (by decide +kernel) rfl (Nat.le_of_ble_eq_true rfl) ?_
  unfold m_XO_lowestAmong at h
  refine J_eq (ls' := [some (.ref 11), some (.int p0), none, none]) rfl rfl rfl rfl ?_
  refine J_iconst (v := (0 : Int32)) d_XO_lowestAmong_0 (by decide) ?_
  refine J_istore_n d_XO_lowestAmong_1 (by decide) ?_
  refine J_iconst (v := (0 : Int32)) d_XO_lowestAmong_2 (by decide) ?_
  refine J_istore_n d_XO_lowestAmong_3 (by decide) ?_
  refine JL_XO_lowestAmong_4 l _ _ _ _ r (fun x7 o8 h => ?_) jF _ _ h
  refine J_iload_n d_XO_lowestAmong_46 rfl ?_
  exact J_iret d_XO_lowestAmong_47 rfl rfl (by cases h; exact ⟨rfl, rfl⟩)
abbrev rm_XO_lowest : Room := { frames := 4, cells := 0, slots := 0, locals := 88 }
abbrev K_XO_lowest (l : Launch) := JW l vwCl NsG TsG "ClassifySort$Order" prog_4_method_13_code 1 (some .int) rm_XO_lowest
def m_XO_lowest (s : jS) (a : jB) : Option (Int32) := jb (m_XO_lowestAmong s a (s 9)) (fun v2 => some (v2))
set_option maxRecDepth 100000 in
set_option maxHeartbeats 4000000 in
theorem c_XO_lowest (l : Launch) (s : jS) (a : jB) (r : Int32) (h : m_XO_lowest s a = some r) : JMet l vwCl NsG (.code y_XO_lowest prog_4_method_13_code 1 (some .int) :: TsG) y_XO_lowest rm_XO_lowest [.ref 11] (wX s a) (fun v w => v = some (.int r) ∧ w = wX s a) := by
  refine J_enter (by decide +kernel) rfl (Nat.le_of_ble_eq_true rfl) ?_
  unfold m_XO_lowest at h
  refine J_eq (ls' := [some (.ref 11)]) rfl rfl rfl rfl ?_
  refine J_aload_n d_XO_lowest_0 rfl ?_
  refine J_aload_n d_XO_lowest_1 rfl ?_
  refine J_get (j := 2) (v := .int (s 9)) d_XO_lowest_2 (wX_at11 _ _) rfl in_4 (by decide) ts_148 rfl ?_
  obtain ⟨v2, e1, h⟩ := jb_some h
  refine J_cVi1 d_XO_lowest_5 (c_XO_lowestAmong l _ _ _ _ e1) (wX_at11 _ _) rfl ts_225 ts_good rfl rfl ts_160 ts_226 dy_XO_lowestAmong (by decide) (Nat.le_of_ble_eq_true rfl) ts_227 ts_228 ?_
  exact J_iret d_XO_lowest_8 rfl rfl (by cases h; exact ⟨rfl, rfl⟩)
abbrev rm_X_parent : Room := { frames := 5, cells := 0, slots := 0, locals := 108 }
abbrev K_X_parent (l : Launch) := JW l vwCl NsG TsG "ClassifySort" prog_1_method_10_code 4 (some .int) rm_X_parent
def m_X_parent (s : jS) (a : jB) (p0 : Int32) (p1 : Int32) : Option (Int32) := jb (m_X_isClass s a p0) (fun v2 => (if v2 = (0 : Int32) then some ((-1 : Int32)) else (if (s 3) = (0 : Int32) then some ((-3 : Int32)) else jb (m_XO_isEmptyClass s a p0) (fun v4 => jb (if v4 = (0 : Int32) then jb (m_XO_directlyAbove s a p0) (fun v11 => some v11) else jb (m_XO_lowest s a) (fun v13 => some v13)) (fun b5 => jb (m_XO_firstOfSame s a b5) (fun v7 => jb (m_X_pick v7 p1) (fun v9 => some (v9))))))))
set_option maxRecDepth 100000 in
set_option maxHeartbeats 4000000 in
theorem c_X_parent (l : Launch) (s : jS) (a : jB) (p0 : Int32) (p1 : Int32) (r : Int32) (h : m_X_parent s a p0 p1 = some r) : JMet l vwCl NsG (.code y_X_parent prog_1_method_10_code 4 (some .int) :: TsG) y_X_parent rm_X_parent [.ref 0, .int p0, .int p1] (wX s a) (fun v w => v = some (.int r) ∧ w = wX s a) := by
  refine J_enter (by decide +kernel) rfl (Nat.le_of_ble_eq_true rfl) ?_
  unfold m_X_parent at h
  refine J_eq (ls' := [some (.ref 0), some (.int p0), some (.int p1), none]) rfl rfl rfl rfl ?_
  refine J_aload_n d_X_parent_0 rfl ?_
  refine J_iload_n d_X_parent_1 rfl ?_
  obtain ⟨v2, e1, h⟩ := jb_some h
  refine J_cVi1 d_X_parent_2 (c_X_isClass l _ _ _ _ e1) (wX_at0 _ _) rfl ts_30 ts_good rfl rfl ts_4 ts_31 dy_X_isClass (by decide) (Nat.le_of_ble_eq_true rfl) ts_32 ts_33 ?_
  refine J_if_ne (tgt := 10) d_X_parent_5 (by decide) (fun c => ?_) (fun c => ?_)
  · have h := j_ifn c h
    refine J_aload_n d_X_parent_10 rfl ?_
    refine J_get (j := 8) (v := .int (s 3)) d_X_parent_11 (wX_at0 _ _) rfl in_0 (by decide) ts_28 rfl ?_
    refine J_if_ne (tgt := 20) d_X_parent_14 (by decide) (fun c => ?_) (fun c => ?_)
    · have h := j_ifn c h
      refine J_aload_n d_X_parent_20 rfl ?_
      refine J_get (j := 3) (v := .ref 11) d_X_parent_21 (wX_at0 _ _) rfl in_0 (by decide) ts_147 rfl ?_
      refine J_iload_n d_X_parent_24 rfl ?_
      obtain ⟨v4, e3, h⟩ := jb_some h
      refine J_cVi1 d_X_parent_25 (c_XO_isEmptyClass l _ _ _ _ e3) (wX_at11 _ _) rfl ts_201 ts_good rfl rfl ts_160 ts_202 dy_XO_isEmptyClass (by decide) (Nat.le_of_ble_eq_true rfl) ts_203 ts_204 ?_
      obtain ⟨b5, hb5, h⟩ := jb_some h
      have kb5 : K_X_parent l 49 [some (.ref 0), some (.int p0), some (.int p1), none] [.int b5] (wX s a) (fun v w => v = some (.int r) ∧ w = wX s a) := by
        refine J_istore_n d_X_parent_49 (by decide) ?_
        refine J_aload_n d_X_parent_50 rfl ?_
        refine J_get (j := 3) (v := .ref 11) d_X_parent_51 (wX_at0 _ _) rfl in_0 (by decide) ts_147 rfl ?_
        refine J_iload_n d_X_parent_54 rfl ?_
        obtain ⟨v7, e6, h⟩ := jb_some h
        refine J_cVi1 d_X_parent_55 (c_XO_firstOfSame l _ _ _ _ e6) (wX_at11 _ _) rfl ts_209 ts_good rfl rfl ts_160 ts_210 dy_XO_firstOfSame (by decide) (Nat.le_of_ble_eq_true rfl) ts_211 ts_212 ?_
        refine J_iload_n d_X_parent_58 rfl ?_
        obtain ⟨v9, e8, h⟩ := jb_some h
        refine J_cSi2 d_X_parent_59 (c_X_pick l _ _ _ _ e8) ts_214 ts_good rfl rfl ts_4 ts_215 dy_X_pick (by decide) (Nat.le_of_ble_eq_true rfl) ts_216 ?_
        exact J_iret d_X_parent_62 rfl rfl (by cases h; exact ⟨rfl, rfl⟩)
      clear h
      have h := hb5
      refine J_if_eq (tgt := 41) d_X_parent_28 (by decide) (fun c => ?_) (fun c => ?_)
      · have h := j_ifp c h
        refine J_aload_n d_X_parent_41 rfl ?_
        refine J_get (j := 3) (v := .ref 11) d_X_parent_42 (wX_at0 _ _) rfl in_0 (by decide) ts_147 rfl ?_
        refine J_iload_n d_X_parent_45 rfl ?_
        obtain ⟨v11, e10, h⟩ := jb_some h
        refine J_cVi1 d_X_parent_46 (c_XO_directlyAbove l _ _ _ _ e10) (wX_at11 _ _) rfl ts_217 ts_good rfl rfl ts_160 ts_218 dy_XO_directlyAbove (by decide) (Nat.le_of_ble_eq_true rfl) ts_219 ts_220 ?_
        cases h
        exact kb5
      · have h := j_ifn c h
        refine J_aload_n d_X_parent_31 rfl ?_
        refine J_get (j := 3) (v := .ref 11) d_X_parent_32 (wX_at0 _ _) rfl in_0 (by decide) ts_147 rfl ?_
        obtain ⟨v13, e12, h⟩ := jb_some h
        refine J_cVi0 d_X_parent_35 (c_XO_lowest l _ _ _ e12) (wX_at11 _ _) rfl ts_229 ts_good rfl rfl ts_160 ts_230 dy_XO_lowest (by decide) (Nat.le_of_ble_eq_true rfl) ts_231 ts_232 ?_
        refine J_goto (tgt := 49) d_X_parent_38 (by decide) ?_
        cases h
        exact kb5
    · have h := j_ifp c h
      refine J_bipush (v := (-3 : Int32)) d_X_parent_17 (by decide) ?_
      exact J_iret d_X_parent_19 rfl rfl (by cases h; exact ⟨rfl, rfl⟩)
  · have h := j_ifp c h
    refine J_iconst (v := (-1 : Int32)) d_X_parent_8 (by decide) ?_
    exact J_iret d_X_parent_9 rfl rfl (by cases h; exact ⟨rfl, rfl⟩)
abbrev rm_X_child : Room := { frames := 3, cells := 0, slots := 0, locals := 65 }
abbrev K_X_child (l : Launch) := JW l vwCl NsG TsG "ClassifySort" prog_1_method_11_code 4 (some .int) rm_X_child
def m_X_child (s : jS) (a : jB) (p0 : Int32) (p1 : Int32) : Option (Int32) := jb (m_X_isClass s a p0) (fun v2 => (if v2 = (0 : Int32) then some ((-1 : Int32)) else (if (s 3) = (0 : Int32) then some ((-3 : Int32)) else jb (m_XO_isEmptyClass s a p0) (fun v4 => jb (if v4 = (0 : Int32) then jb (m_XO_directlyBelow s a p0) (fun v11 => some v11) else some (0 : Int32)) (fun b5 => jb (m_XO_firstOfSame s a b5) (fun v7 => jb (m_X_pick v7 p1) (fun v9 => some (v9))))))))
set_option maxRecDepth 100000 in
set_option maxHeartbeats 4000000 in
theorem c_X_child (l : Launch) (s : jS) (a : jB) (p0 : Int32) (p1 : Int32) (r : Int32) (h : m_X_child s a p0 p1 = some r) : JMet l vwCl NsG (.code y_X_child prog_1_method_11_code 4 (some .int) :: TsG) y_X_child rm_X_child [.ref 0, .int p0, .int p1] (wX s a) (fun v w => v = some (.int r) ∧ w = wX s a) := by
  refine J_enter (by decide +kernel) rfl (Nat.le_of_ble_eq_true rfl) ?_
  unfold m_X_child at h
  refine J_eq (ls' := [some (.ref 0), some (.int p0), some (.int p1), none]) rfl rfl rfl rfl ?_
  refine J_aload_n d_X_child_0 rfl ?_
  refine J_iload_n d_X_child_1 rfl ?_
  obtain ⟨v2, e1, h⟩ := jb_some h
  refine J_cVi1 d_X_child_2 (c_X_isClass l _ _ _ _ e1) (wX_at0 _ _) rfl ts_30 ts_good rfl rfl ts_4 ts_31 dy_X_isClass (by decide) (Nat.le_of_ble_eq_true rfl) ts_32 ts_33 ?_
  refine J_if_ne (tgt := 10) d_X_child_5 (by decide) (fun c => ?_) (fun c => ?_)
  · have h := j_ifn c h
    refine J_aload_n d_X_child_10 rfl ?_
    refine J_get (j := 8) (v := .int (s 3)) d_X_child_11 (wX_at0 _ _) rfl in_0 (by decide) ts_28 rfl ?_
    refine J_if_ne (tgt := 20) d_X_child_14 (by decide) (fun c => ?_) (fun c => ?_)
    · have h := j_ifn c h
      refine J_aload_n d_X_child_20 rfl ?_
      refine J_get (j := 3) (v := .ref 11) d_X_child_21 (wX_at0 _ _) rfl in_0 (by decide) ts_147 rfl ?_
      refine J_iload_n d_X_child_24 rfl ?_
      obtain ⟨v4, e3, h⟩ := jb_some h
      refine J_cVi1 d_X_child_25 (c_XO_isEmptyClass l _ _ _ _ e3) (wX_at11 _ _) rfl ts_201 ts_good rfl rfl ts_160 ts_202 dy_XO_isEmptyClass (by decide) (Nat.le_of_ble_eq_true rfl) ts_203 ts_204 ?_
      obtain ⟨b5, hb5, h⟩ := jb_some h
      have kb5 : K_X_child l 43 [some (.ref 0), some (.int p0), some (.int p1), none] [.int b5] (wX s a) (fun v w => v = some (.int r) ∧ w = wX s a) := by
        refine J_istore_n d_X_child_43 (by decide) ?_
        refine J_aload_n d_X_child_44 rfl ?_
        refine J_get (j := 3) (v := .ref 11) d_X_child_45 (wX_at0 _ _) rfl in_0 (by decide) ts_147 rfl ?_
        refine J_iload_n d_X_child_48 rfl ?_
        obtain ⟨v7, e6, h⟩ := jb_some h
        refine J_cVi1 d_X_child_49 (c_XO_firstOfSame l _ _ _ _ e6) (wX_at11 _ _) rfl ts_209 ts_good rfl rfl ts_160 ts_210 dy_XO_firstOfSame (by decide) (Nat.le_of_ble_eq_true rfl) ts_211 ts_212 ?_
        refine J_iload_n d_X_child_52 rfl ?_
        obtain ⟨v9, e8, h⟩ := jb_some h
        refine J_cSi2 d_X_child_53 (c_X_pick l _ _ _ _ e8) ts_214 ts_good rfl rfl ts_4 ts_215 dy_X_pick (by decide) (Nat.le_of_ble_eq_true rfl) ts_216 ?_
        exact J_iret d_X_child_56 rfl rfl (by cases h; exact ⟨rfl, rfl⟩)
      clear h
      have h := hb5
      refine J_if_eq (tgt := 35) d_X_child_28 (by decide) (fun c => ?_) (fun c => ?_)
      · have h := j_ifp c h
        refine J_aload_n d_X_child_35 rfl ?_
        refine J_get (j := 3) (v := .ref 11) d_X_child_36 (wX_at0 _ _) rfl in_0 (by decide) ts_147 rfl ?_
        refine J_iload_n d_X_child_39 rfl ?_
        obtain ⟨v11, e10, h⟩ := jb_some h
        refine J_cVi1 d_X_child_40 (c_XO_directlyBelow l _ _ _ _ e10) (wX_at11 _ _) rfl ts_221 ts_good rfl rfl ts_160 ts_233 dy_XO_directlyBelow (by decide) (Nat.le_of_ble_eq_true rfl) ts_223 ts_224 ?_
        cases h
        exact kb5
      · have h := j_ifn c h
        refine J_iconst (v := (0 : Int32)) d_X_child_31 (by decide) ?_
        refine J_goto (tgt := 43) d_X_child_32 (by decide) ?_
        cases h
        exact kb5
    · have h := j_ifp c h
      refine J_bipush (v := (-3 : Int32)) d_X_child_17 (by decide) ?_
      exact J_iret d_X_child_19 rfl rfl (by cases h; exact ⟨rfl, rfl⟩)
  · have h := j_ifp c h
    refine J_iconst (v := (-1 : Int32)) d_X_child_8 (by decide) ?_
    exact J_iret d_X_child_9 rfl rfl (by cases h; exact ⟨rfl, rfl⟩)
abbrev rm_X_equal : Room := { frames := 3, cells := 0, slots := 0, locals := 64 }
abbrev K_X_equal (l : Launch) := JW l vwCl NsG TsG "ClassifySort" prog_1_method_12_code 3 (some .int) rm_X_equal
def m_X_equal (s : jS) (a : jB) (p0 : Int32) (p1 : Int32) : Option (Int32) := jb (m_X_isClass s a p0) (fun v2 => (if v2 = (0 : Int32) then some ((-1 : Int32)) else (if (s 3) = (0 : Int32) then some ((-3 : Int32)) else jb (m_XK_sameAs s a p0) (fun v4 => jb (m_X_bit (20 : Int32)) (fun v6 => jb (m_X_pick (v4 &&& (v6 ^^^ (-1 : Int32))) p1) (fun v8 => some (v8)))))))
set_option maxRecDepth 100000 in
set_option maxHeartbeats 4000000 in
theorem c_X_equal (l : Launch) (s : jS) (a : jB) (p0 : Int32) (p1 : Int32) (r : Int32) (h : m_X_equal s a p0 p1 = some r) : JMet l vwCl NsG (.code y_X_equal prog_1_method_12_code 3 (some .int) :: TsG) y_X_equal rm_X_equal [.ref 0, .int p0, .int p1] (wX s a) (fun v w => v = some (.int r) ∧ w = wX s a) := by
  refine J_enter (by decide +kernel) rfl (Nat.le_of_ble_eq_true rfl) ?_
  unfold m_X_equal at h
  refine J_eq (ls' := [some (.ref 0), some (.int p0), some (.int p1)]) rfl rfl rfl rfl ?_
  refine J_aload_n d_X_equal_0 rfl ?_
  refine J_iload_n d_X_equal_1 rfl ?_
  obtain ⟨v2, e1, h⟩ := jb_some h
  refine J_cVi1 d_X_equal_2 (c_X_isClass l _ _ _ _ e1) (wX_at0 _ _) rfl ts_30 ts_good rfl rfl ts_4 ts_31 dy_X_isClass (by decide) (Nat.le_of_ble_eq_true rfl) ts_32 ts_33 ?_
  refine J_if_ne (tgt := 10) d_X_equal_5 (by decide) (fun c => ?_) (fun c => ?_)
  · have h := j_ifn c h
    refine J_aload_n d_X_equal_10 rfl ?_
    refine J_get (j := 8) (v := .int (s 3)) d_X_equal_11 (wX_at0 _ _) rfl in_0 (by decide) ts_28 rfl ?_
    refine J_if_ne (tgt := 20) d_X_equal_14 (by decide) (fun c => ?_) (fun c => ?_)
    · have h := j_ifn c h
      refine J_aload_n d_X_equal_20 rfl ?_
      refine J_get (j := 2) (v := .ref 6) d_X_equal_21 (wX_at0 _ _) rfl in_0 (by decide) ts_1 rfl ?_
      refine J_iload_n d_X_equal_24 rfl ?_
      obtain ⟨v4, e3, h⟩ := jb_some h
      refine J_cVi1 d_X_equal_25 (c_XK_sameAs l _ _ _ _ e3) (wX_at6 _ _) rfl ts_205 ts_good rfl rfl ts_11 ts_234 dy_XK_sameAs (by decide) (Nat.le_of_ble_eq_true rfl) ts_207 ts_208 ?_
      refine J_bipush (v := (20 : Int32)) d_X_equal_28 (by decide) ?_
      obtain ⟨v6, e5, h⟩ := jb_some h
      refine J_cSi1 d_X_equal_30 (c_X_bit l _ _ _ e5) ts_3 ts_good rfl rfl ts_4 ts_7 dy_X_bit (by decide) (Nat.le_of_ble_eq_true rfl) ts_5 ?_
      refine J_iconst (v := (-1 : Int32)) d_X_equal_33 (by decide) ?_
      refine J_ixor d_X_equal_34 ?_
      refine J_iand d_X_equal_35 ?_
      refine J_iload_n d_X_equal_36 rfl ?_
      obtain ⟨v8, e7, h⟩ := jb_some h
      refine J_cSi2 d_X_equal_37 (c_X_pick l _ _ _ _ e7) ts_214 ts_good rfl rfl ts_4 ts_215 dy_X_pick (by decide) (Nat.le_of_ble_eq_true rfl) ts_216 ?_
      exact J_iret d_X_equal_40 rfl rfl (by cases h; exact ⟨rfl, rfl⟩)
    · have h := j_ifp c h
      refine J_bipush (v := (-3 : Int32)) d_X_equal_17 (by decide) ?_
      exact J_iret d_X_equal_19 rfl rfl (by cases h; exact ⟨rfl, rfl⟩)
  · have h := j_ifp c h
    refine J_iconst (v := (-1 : Int32)) d_X_equal_8 (by decide) ?_
    exact J_iret d_X_equal_9 rfl rfl (by cases h; exact ⟨rfl, rfl⟩)
abbrev rm_XO_emptyClasses : Room := { frames := 0, cells := 0, slots := 0, locals := 0 }
abbrev K_XO_emptyClasses (l : Launch) := JW l vwCl NsG TsG "ClassifySort$Order" prog_4_method_3_code 1 (some .int) rm_XO_emptyClasses
def m_XO_emptyClasses (s : jS) (a : jB) : Option (Int32) := some ((s 10))
set_option maxRecDepth 100000 in
set_option maxHeartbeats 4000000 in
theorem c_XO_emptyClasses (l : Launch) (s : jS) (a : jB) (r : Int32) (h : m_XO_emptyClasses s a = some r) : JMet l vwCl NsG (.code y_XO_emptyClasses prog_4_method_3_code 1 (some .int) :: TsG) y_XO_emptyClasses rm_XO_emptyClasses [.ref 11] (wX s a) (fun v w => v = some (.int r) ∧ w = wX s a) := by
  refine J_enter (by decide +kernel) rfl (Nat.le_of_ble_eq_true rfl) ?_
  unfold m_XO_emptyClasses at h
  refine J_eq (ls' := [some (.ref 11)]) rfl rfl rfl rfl ?_
  refine J_aload_n d_XO_emptyClasses_0 rfl ?_
  refine J_get (j := 3) (v := .int (s 10)) d_XO_emptyClasses_1 (wX_at11 _ _) rfl in_4 (by decide) ts_149 rfl ?_
  exact J_iret d_XO_emptyClasses_4 rfl rfl (by cases h; exact ⟨rfl, rfl⟩)
abbrev rm_X_empty : Room := { frames := 3, cells := 0, slots := 0, locals := 64 }
abbrev K_X_empty (l : Launch) := JW l vwCl NsG TsG "ClassifySort" prog_1_method_13_code 2 (some .int) rm_X_empty
def m_X_empty (s : jS) (a : jB) (p0 : Int32) : Option (Int32) := (if (s 3) = (0 : Int32) then some ((-3 : Int32)) else jb (m_XO_emptyClasses s a) (fun v2 => jb (m_X_pick v2 p0) (fun v4 => some (v4))))
set_option maxRecDepth 100000 in
set_option maxHeartbeats 4000000 in
theorem c_X_empty (l : Launch) (s : jS) (a : jB) (p0 : Int32) (r : Int32) (h : m_X_empty s a p0 = some r) : JMet l vwCl NsG (.code y_X_empty prog_1_method_13_code 2 (some .int) :: TsG) y_X_empty rm_X_empty [.ref 0, .int p0] (wX s a) (fun v w => v = some (.int r) ∧ w = wX s a) := by
  refine J_enter (by decide +kernel) rfl (Nat.le_of_ble_eq_true rfl) ?_
  unfold m_X_empty at h
  refine J_eq (ls' := [some (.ref 0), some (.int p0)]) rfl rfl rfl rfl ?_
  refine J_aload_n d_X_empty_0 rfl ?_
  refine J_get (j := 8) (v := .int (s 3)) d_X_empty_1 (wX_at0 _ _) rfl in_0 (by decide) ts_28 rfl ?_
  refine J_if_ne (tgt := 10) d_X_empty_4 (by decide) (fun c => ?_) (fun c => ?_)
  · have h := j_ifn c h
    refine J_aload_n d_X_empty_10 rfl ?_
    refine J_get (j := 3) (v := .ref 11) d_X_empty_11 (wX_at0 _ _) rfl in_0 (by decide) ts_147 rfl ?_
    obtain ⟨v2, e1, h⟩ := jb_some h
    refine J_cVi0 d_X_empty_14 (c_XO_emptyClasses l _ _ _ e1) (wX_at11 _ _) rfl ts_235 ts_good rfl rfl ts_160 ts_236 dy_XO_emptyClasses (by decide) (Nat.le_of_ble_eq_true rfl) ts_237 ts_238 ?_
    refine J_iload_n d_X_empty_17 rfl ?_
    obtain ⟨v4, e3, h⟩ := jb_some h
    refine J_cSi2 d_X_empty_18 (c_X_pick l _ _ _ _ e3) ts_214 ts_good rfl rfl ts_4 ts_215 dy_X_pick (by decide) (Nat.le_of_ble_eq_true rfl) ts_216 ?_
    exact J_iret d_X_empty_21 rfl rfl (by cases h; exact ⟨rfl, rfl⟩)
  · have h := j_ifp c h
    refine J_bipush (v := (-3 : Int32)) d_X_empty_7 (by decide) ?_
    exact J_iret d_X_empty_9 rfl rfl (by cases h; exact ⟨rfl, rfl⟩)
abbrev rm_XK_openOf : Room := { frames := 0, cells := 0, slots := 0, locals := 0 }
abbrev K_XK_openOf (l : Launch) := JW l vwCl NsG TsG "ClassifySort$Knowledge" prog_3_method_9_code 2 (some .int) rm_XK_openOf
def m_XK_openOf (s : jS) (a : jB) (p0 : Int32) : Option (Int32) := jg (jin p0 21) (some (((a 10) (p0).toNatClampNeg)))
set_option maxRecDepth 100000 in
set_option maxHeartbeats 4000000 in
theorem c_XK_openOf (l : Launch) (s : jS) (a : jB) (p0 : Int32) (r : Int32) (h : m_XK_openOf s a p0 = some r) : JMet l vwCl NsG (.code y_XK_openOf prog_3_method_9_code 2 (some .int) :: TsG) y_XK_openOf rm_XK_openOf [.ref 6, .int p0] (wX s a) (fun v w => v = some (.int r) ∧ w = wX s a) := by
  refine J_enter (by decide +kernel) rfl (Nat.le_of_ble_eq_true rfl) ?_
  unfold m_XK_openOf at h
  refine J_eq (ls' := [some (.ref 6), some (.int p0)]) rfl rfl rfl rfl ?_
  refine J_aload_n d_XK_openOf_0 rfl ?_
  refine J_get (j := 3) (v := .ref 10) d_XK_openOf_1 (wX_at6 _ _) rfl in_3 (by decide) ts_19 rfl ?_
  refine J_iload_n d_XK_openOf_4 rfl ?_
  obtain ⟨g, h⟩ := jg_some h
  refine J_iald (f := (a 10)) d_XK_openOf_5 (wX_at10 _ _) (jin_in g) ?_
  exact J_iret d_XK_openOf_6 rfl rfl (by cases h; exact ⟨rfl, rfl⟩)
abbrev rm_X_open : Room := { frames := 3, cells := 0, slots := 0, locals := 64 }
abbrev K_X_open (l : Launch) := JW l vwCl NsG TsG "ClassifySort" prog_1_method_14_code 6 (some .int) rm_X_open
def L_X_open_4 (s : jS) (a : jB) (k71 : Unit → Option (Int32)) : Nat → Int32 → Int32 → Option (Int32)
  | 0, _, _ => none
  | f + 1, x2, x3 => (if (s 0) ≤ x3 then k71 () else jb (m_XK_openOf s a x3) (fun v2 => jb (m_X_pick v2 x2) (fun v4 => (if v4 = (-6 : Int32) then jb (m_JI_bitCount v2) (fun v6 => L_X_open_4 s a k71 f ((x2 - v6)) ((x3 + (1 : Int32)))) else jb (if v4 = (20 : Int32) then some (31 : Int32) else some v4) (fun b7 => some ((((32 : Int32) * x3) + b7)))))))
set_option maxRecDepth 100000 in
set_option maxHeartbeats 4000000 in
theorem JL_X_open_4 (l : Launch) (s : jS) (a : jB) (k71 : Unit → Option (Int32)) (r : Int32) (hk71 : ∀ (_ : Unit) (o1 : Option Value) (o2 : Option Value) (o3 : Option Value) (o4 : Option Value) (o5 : Option Value), k71 () = some r → K_X_open l 71 [some (.ref 0), o1, o2, o3, o4, o5] [] (wX s a) (fun v w => v = some (.int r) ∧ w = wX s a)) : ∀ (f : Nat), ∀ (x2 : Int32) (x3 : Int32) (o1 : Option Value) (o4 : Option Value) (o5 : Option Value), L_X_open_4 s a k71 f x2 x3 = some r → K_X_open l 4 [some (.ref 0), o1, some (.int x2), some (.int x3), o4, o5] [] (wX s a) (fun v w => v = some (.int r) ∧ w = wX s a) := by
  intro f
  induction f with
  | zero =>
    intro x2 x3 o1 o4 o5 h
    cases h
  | succ f ih =>
    intro x2 x3 o1 o4 o5 h
    rw [L_X_open_4] at h
    refine J_iload_n d_X_open_4 rfl ?_
    refine J_aload_n d_X_open_5 rfl ?_
    refine J_get (j := 5) (v := .int (s 0)) d_X_open_6 (wX_at0 _ _) rfl in_0 (by decide) ts_0 rfl ?_
    refine J_icmp_ge (tgt := 71) d_X_open_9 (by decide) (fun c => ?_) (fun c => ?_)
    · have h := j_ifp c h
      exact hk71 () _ _ _ _ _ h
    · have h := j_ifn c h
      refine J_aload_n d_X_open_12 rfl ?_
      refine J_get (j := 2) (v := .ref 6) d_X_open_13 (wX_at0 _ _) rfl in_0 (by decide) ts_1 rfl ?_
      refine J_iload_n d_X_open_16 rfl ?_
      obtain ⟨v2, e1, h⟩ := jb_some h
      refine J_cVi1 d_X_open_17 (c_XK_openOf l _ _ _ _ e1) (wX_at6 _ _) rfl ts_239 ts_good rfl rfl ts_11 ts_240 dy_XK_openOf (by decide) (Nat.le_of_ble_eq_true rfl) ts_241 ts_242 ?_
      refine J_istore d_X_open_20 (by decide) ?_
      refine J_iload d_X_open_22 rfl ?_
      refine J_iload_n d_X_open_24 rfl ?_
      obtain ⟨v4, e3, h⟩ := jb_some h
      refine J_cSi2 d_X_open_25 (c_X_pick l _ _ _ _ e3) ts_214 ts_good rfl rfl ts_4 ts_215 dy_X_pick (by decide) (Nat.le_of_ble_eq_true rfl) ts_216 ?_
      refine J_istore d_X_open_28 (by decide) ?_
      refine J_iload d_X_open_30 rfl ?_
      refine J_bipush (v := (-6 : Int32)) d_X_open_32 (by decide) ?_
      refine J_icmp_eq (tgt := 57) d_X_open_34 (by decide) (fun c => ?_) (fun c => ?_)
      · have h := j_ifp c h
        refine J_iload_n d_X_open_57 rfl ?_
        refine J_iload d_X_open_58 rfl ?_
        obtain ⟨v6, e5, h⟩ := jb_some h
        refine J_cSi1 d_X_open_60 (c_JI_bitCount l _ _ _ e5) ts_72 ts_good rfl rfl ts_73 ts_74 dy_JI_bitCount (by decide) (Nat.le_of_ble_eq_true rfl) ts_75 ?_
        refine J_isub d_X_open_63 ?_
        refine J_istore_n d_X_open_64 (by decide) ?_
        refine J_iinc (v := (x3 + (1 : Int32))) d_X_open_65 rfl (by first | rfl | decide) (by decide) ?_
        refine J_goto (tgt := 4) d_X_open_68 (by decide) ?_
        exact ih _ _ _ _ _ h
      · have h := j_ifn c h
        refine J_bipush (v := (32 : Int32)) d_X_open_37 (by decide) ?_
        refine J_iload_n d_X_open_39 rfl ?_
        refine J_imul d_X_open_40 ?_
        refine J_iload d_X_open_41 rfl ?_
        refine J_bipush (v := (20 : Int32)) d_X_open_43 (by decide) ?_
        obtain ⟨b7, hb7, h⟩ := jb_some h
        have kb7 : K_X_open l 55 [some (.ref 0), o1, some (.int x2), some (.int x3), some (.int v2), some (.int v4)] [.int b7, .int ((32 : Int32) * x3)] (wX s a) (fun v w => v = some (.int r) ∧ w = wX s a) := by
          refine J_iadd d_X_open_55 ?_
          exact J_iret d_X_open_56 rfl rfl (by cases h; exact ⟨rfl, rfl⟩)
        clear h
        have h := hb7
        refine J_icmp_ne (tgt := 53) d_X_open_45 (by decide) (fun c => ?_) (fun c => ?_)
        · have h := j_ifn c h
          refine J_iload d_X_open_53 rfl ?_
          cases h
          exact kb7
        · have h := j_ifp c h
          refine J_bipush (v := (31 : Int32)) d_X_open_48 (by decide) ?_
          refine J_goto (tgt := 55) d_X_open_50 (by decide) ?_
          cases h
          exact kb7
def m_X_open (s : jS) (a : jB) (p0 : Int32) : Option (Int32) := L_X_open_4 (s) (a) (fun _ => some ((-6 : Int32))) jF (p0) ((0 : Int32))
set_option maxRecDepth 100000 in
set_option maxHeartbeats 4000000 in
theorem c_X_open (l : Launch) (s : jS) (a : jB) (p0 : Int32) (r : Int32) (h : m_X_open s a p0 = some r) : JMet l vwCl NsG (.code y_X_open prog_1_method_14_code 6 (some .int) :: TsG) y_X_open rm_X_open [.ref 0, .int p0] (wX s a) (fun v w => v = some (.int r) ∧ w = wX s a) := by
  refine J_enter (by decide +kernel) rfl (Nat.le_of_ble_eq_true rfl) ?_
  unfold m_X_open at h
  refine J_eq (ls' := [some (.ref 0), some (.int p0), none, none, none, none]) rfl rfl rfl rfl ?_
  refine J_iload_n d_X_open_0 rfl ?_
  refine J_istore_n d_X_open_1 (by decide) ?_
  refine J_iconst (v := (0 : Int32)) d_X_open_2 (by decide) ?_
  refine J_istore_n d_X_open_3 (by decide) ?_
  refine JL_X_open_4 l _ _ _ r (fun _ o8 o9 o10 o11 o12 h => ?_) jF _ _ _ _ _ h
  refine J_bipush (v := (-6 : Int32)) d_X_open_71 (by decide) ?_
  exact J_iret d_X_open_73 rfl rfl (by cases h; exact ⟨rfl, rfl⟩)
abbrev rm_X_isThing : Room := { frames := 0, cells := 0, slots := 0, locals := 0 }
abbrev K_X_isThing (l : Launch) := JW l vwCl NsG TsG "ClassifySort" prog_1_method_20_code 2 (some .boolean) rm_X_isThing
def m_X_isThing (s : jS) (a : jB) (p0 : Int32) : Option (Int32) := jb (if p0 < (0 : Int32) then some (0 : Int32) else (if (s 1) ≤ p0 then some (0 : Int32) else some (1 : Int32))) (fun b1 => jg (jz b1) (some (b1)))
set_option maxRecDepth 100000 in
set_option maxHeartbeats 4000000 in
theorem c_X_isThing (l : Launch) (s : jS) (a : jB) (p0 : Int32) (r : Int32) (h : m_X_isThing s a p0 = some r) : JMet l vwCl NsG (.code y_X_isThing prog_1_method_20_code 2 (some .boolean) :: TsG) y_X_isThing rm_X_isThing [.ref 0, .int p0] (wX s a) (fun v w => v = some (.int r) ∧ w = wX s a) := by
  refine J_enter (by decide +kernel) rfl (Nat.le_of_ble_eq_true rfl) ?_
  unfold m_X_isThing at h
  refine J_eq (ls' := [some (.ref 0), some (.int p0)]) rfl rfl rfl rfl ?_
  refine J_iload_n d_X_isThing_0 rfl ?_
  obtain ⟨b1, hb1, h⟩ := jb_some h
  have kb1 : K_X_isThing l 17 [some (.ref 0), some (.int p0)] [.int b1] (wX s a) (fun v w => v = some (.int r) ∧ w = wX s a) := by
    obtain ⟨g, h⟩ := jg_some h
    exact J_iret d_X_isThing_17 rfl (jz_nar g) (by cases h; exact ⟨rfl, rfl⟩)
  clear h
  have h := hb1
  refine J_if_lt (tgt := 16) d_X_isThing_1 (by decide) (fun c => ?_) (fun c => ?_)
  · have h := j_ifp c h
    refine J_iconst (v := (0 : Int32)) d_X_isThing_16 (by decide) ?_
    cases h
    exact kb1
  · have h := j_ifn c h
    refine J_iload_n d_X_isThing_4 rfl ?_
    refine J_aload_n d_X_isThing_5 rfl ?_
    refine J_get (j := 6) (v := .int (s 1)) d_X_isThing_6 (wX_at0 _ _) rfl in_0 (by decide) ts_29 rfl ?_
    refine J_icmp_ge (tgt := 16) d_X_isThing_9 (by decide) (fun c => ?_) (fun c => ?_)
    · have h := j_ifp c h
      refine J_iconst (v := (0 : Int32)) d_X_isThing_16 (by decide) ?_
      cases h
      exact kb1
    · have h := j_ifn c h
      refine J_iconst (v := (1 : Int32)) d_X_isThing_12 (by decide) ?_
      refine J_goto (tgt := 17) d_X_isThing_13 (by decide) ?_
      cases h
      exact kb1
abbrev rm_X_put : Room := { frames := 2, cells := 0, slots := 0, locals := 41 }
abbrev K_X_put (l : Launch) := JW l vwCl NsG TsG "ClassifySort" prog_1_method_15_code 3 (some .int) rm_X_put
def m_X_put (s : jS) (a : jB) (p0 : Int32) (p1 : Int32) : Option (Int32 × jS × jB) := jb (m_X_isThing s a p0) (fun v2 => (if v2 = (0 : Int32) then some ((-1 : Int32), s, a) else jb (m_X_isClass s a p1) (fun v4 => (if v4 = (0 : Int32) then some ((-1 : Int32), s, a) else jg (jin p0 8) (jb (m_X_has ((a 12) (p0).toNatClampNeg) p1) (fun v6 => (if v6 = (0 : Int32) then jg (jin p0 8) (jb (m_X_bit p1) (fun v8 => jg (jin p0 8) (some ((1 : Int32), s, (va_up a 12 (upd (a 12) (p0).toNatClampNeg (((a 12) (p0).toNatClampNeg) ||| v8))))))) else some ((0 : Int32), s, a))))))))
set_option maxRecDepth 100000 in
set_option maxHeartbeats 4000000 in
theorem c_X_put (l : Launch) (s : jS) (a : jB) (p0 : Int32) (p1 : Int32) (r : Int32 × jS × jB) (h : m_X_put s a p0 p1 = some r) : JMet l vwCl NsG (.code y_X_put prog_1_method_15_code 3 (some .int) :: TsG) y_X_put rm_X_put [.ref 0, .int p0, .int p1] (wX s a) (fun v w => v = some (.int r.1) ∧ w = wX r.2.1 r.2.2) := by
  refine J_enter (by decide +kernel) rfl (Nat.le_of_ble_eq_true rfl) ?_
  unfold m_X_put at h
  refine J_eq (ls' := [some (.ref 0), some (.int p0), some (.int p1)]) rfl rfl rfl rfl ?_
  refine J_aload_n d_X_put_0 rfl ?_
  refine J_iload_n d_X_put_1 rfl ?_
  obtain ⟨v2, e1, h⟩ := jb_some h
  refine J_cVi1 d_X_put_2 (c_X_isThing l _ _ _ _ e1) (wX_at0 _ _) rfl ts_243 ts_good rfl rfl ts_4 ts_244 dy_X_isThing (by decide) (Nat.le_of_ble_eq_true rfl) ts_245 ts_246 ?_
  refine J_if_eq (tgt := 16) d_X_put_5 (by decide) (fun c => ?_) (fun c => ?_)
  · have h := j_ifp c h
    refine J_iconst (v := (-1 : Int32)) d_X_put_16 (by decide) ?_
    exact J_iret d_X_put_17 rfl rfl (by cases h; exact ⟨rfl, rfl⟩)
  · have h := j_ifn c h
    refine J_aload_n d_X_put_8 rfl ?_
    refine J_iload_n d_X_put_9 rfl ?_
    obtain ⟨v4, e3, h⟩ := jb_some h
    refine J_cVi1 d_X_put_10 (c_X_isClass l _ _ _ _ e3) (wX_at0 _ _) rfl ts_30 ts_good rfl rfl ts_4 ts_31 dy_X_isClass (by decide) (Nat.le_of_ble_eq_true rfl) ts_32 ts_33 ?_
    refine J_if_ne (tgt := 18) d_X_put_13 (by decide) (fun c => ?_) (fun c => ?_)
    · have h := j_ifn c h
      refine J_aload_n d_X_put_18 rfl ?_
      refine J_get (j := 4) (v := .ref 12) d_X_put_19 (wX_at0 _ _) rfl in_0 (by decide) ts_247 rfl ?_
      refine J_iload_n d_X_put_22 rfl ?_
      obtain ⟨g, h⟩ := jg_some h
      refine J_iald (f := (a 12)) d_X_put_23 (wX_at12 _ _) (jin_in g) ?_
      refine J_iload_n d_X_put_24 rfl ?_
      obtain ⟨v6, e5, h⟩ := jb_some h
      refine J_cSi2 d_X_put_25 (c_X_has l _ _ _ _ e5) ts_8 ts_good rfl rfl ts_4 ts_213 dy_X_has (by decide) (Nat.le_of_ble_eq_true rfl) ts_9 ?_
      refine J_if_eq (tgt := 33) d_X_put_28 (by decide) (fun c => ?_) (fun c => ?_)
      · have h := j_ifp c h
        refine J_aload_n d_X_put_33 rfl ?_
        refine J_get (j := 4) (v := .ref 12) d_X_put_34 (wX_at0 _ _) rfl in_0 (by decide) ts_247 rfl ?_
        refine J_iload_n d_X_put_37 rfl ?_
        refine J_dup2 d_X_put_38 rfl rfl ?_
        obtain ⟨g, h⟩ := jg_some h
        refine J_iald (f := (a 12)) d_X_put_39 (wX_at12 _ _) (jin_in g) ?_
        refine J_iload_n d_X_put_40 rfl ?_
        obtain ⟨v8, e7, h⟩ := jb_some h
        refine J_cSi1 d_X_put_41 (c_X_bit l _ _ _ e7) ts_3 ts_good rfl rfl ts_4 ts_7 dy_X_bit (by decide) (Nat.le_of_ble_eq_true rfl) ts_5 ?_
        refine J_ior d_X_put_44 ?_
        obtain ⟨g, h⟩ := jg_some h
        refine J_iast (f := (a 12)) d_X_put_45 (wX_at12 _ _) (jin_in g) ?_
        refine J_eq (ws' := wX s (va_up a 12 (upd (a 12) (p0).toNatClampNeg (((a 12) (p0).toNatClampNeg) ||| v8)))) rfl rfl rfl (wX_ast12 _ _ _) ?_
        refine J_iconst (v := (1 : Int32)) d_X_put_46 (by decide) ?_
        exact J_iret d_X_put_47 rfl rfl (by cases h; exact ⟨rfl, rfl⟩)
      · have h := j_ifn c h
        refine J_iconst (v := (0 : Int32)) d_X_put_31 (by decide) ?_
        exact J_iret d_X_put_32 rfl rfl (by cases h; exact ⟨rfl, rfl⟩)
    · have h := j_ifp c h
      refine J_iconst (v := (-1 : Int32)) d_X_put_16 (by decide) ?_
      exact J_iret d_X_put_17 rfl rfl (by cases h; exact ⟨rfl, rfl⟩)
abbrev rm_XR_facts : Room := { frames := 0, cells := 0, slots := 0, locals := 0 }
abbrev K_XR_facts (l : Launch) := JW l vwCl NsG TsG "ClassifySort$Reasoner" prog_5_method_3_code 1 (some .int) rm_XR_facts
def m_XR_facts (s : jS) (a : jB) : Option (Int32) := some ((s 8))
set_option maxRecDepth 100000 in
set_option maxHeartbeats 4000000 in
theorem c_XR_facts (l : Launch) (s : jS) (a : jB) (r : Int32) (h : m_XR_facts s a = some r) : JMet l vwCl NsG (.code y_XR_facts prog_5_method_3_code 1 (some .int) :: TsG) y_XR_facts rm_XR_facts [.ref 4] (wX s a) (fun v w => v = some (.int r) ∧ w = wX s a) := by
  refine J_enter (by decide +kernel) rfl (Nat.le_of_ble_eq_true rfl) ?_
  unfold m_XR_facts at h
  refine J_eq (ls' := [some (.ref 4)]) rfl rfl rfl rfl ?_
  refine J_aload_n d_XR_facts_0 rfl ?_
  refine J_get (j := 4) (v := .int (s 8)) d_XR_facts_1 (wX_at4 _ _) rfl in_2 (by decide) ts_134 rfl ?_
  exact J_iret d_XR_facts_4 rfl rfl (by cases h; exact ⟨rfl, rfl⟩)
abbrev rm_X_type : Room := { frames := 4, cells := 0, slots := 0, locals := 89 }
abbrev K_X_type (l : Launch) := JW l vwCl NsG TsG "ClassifySort" prog_1_method_16_code 3 (some .int) rm_X_type
def m_X_type (s : jS) (a : jB) (p0 : Int32) (p1 : Int32) : Option (Int32 × jS × jB) := jb (m_X_isThing s a p0) (fun v2 => (if v2 = (0 : Int32) then some ((-1 : Int32), s, a) else (if (s 3) = (0 : Int32) then some ((-3 : Int32), s, a) else jg (jin p0 8) (jb3 (m_XR_decide s a ((a 12) (p0).toNatClampNeg) (20 : Int32)) (fun v6 s4 a5 => (if v6 = (1 : Int32) then some ((-5 : Int32), s4, a5) else jb (m_XR_facts s4 a5) (fun v8 => jb (m_XO_lowestAmong s4 a5 v8) (fun v10 => jb (m_XO_firstOfSame s4 a5 v10) (fun v12 => jb (m_X_pick v12 p1) (fun v14 => some (v14, s4, a5)))))))))))
set_option maxRecDepth 100000 in
set_option maxHeartbeats 4000000 in
theorem c_X_type (l : Launch) (s : jS) (a : jB) (p0 : Int32) (p1 : Int32) (r : Int32 × jS × jB) (h : m_X_type s a p0 p1 = some r) : JMet l vwCl NsG (.code y_X_type prog_1_method_16_code 3 (some .int) :: TsG) y_X_type rm_X_type [.ref 0, .int p0, .int p1] (wX s a) (fun v w => v = some (.int r.1) ∧ w = wX r.2.1 r.2.2) := by
  refine J_enter (by decide +kernel) rfl (Nat.le_of_ble_eq_true rfl) ?_
  unfold m_X_type at h
  refine J_eq (ls' := [some (.ref 0), some (.int p0), some (.int p1)]) rfl rfl rfl rfl ?_
  refine J_aload_n d_X_type_0 rfl ?_
  refine J_iload_n d_X_type_1 rfl ?_
  obtain ⟨v2, e1, h⟩ := jb_some h
  refine J_cVi1 d_X_type_2 (c_X_isThing l _ _ _ _ e1) (wX_at0 _ _) rfl ts_243 ts_good rfl rfl ts_4 ts_244 dy_X_isThing (by decide) (Nat.le_of_ble_eq_true rfl) ts_245 ts_246 ?_
  refine J_if_ne (tgt := 10) d_X_type_5 (by decide) (fun c => ?_) (fun c => ?_)
  · have h := j_ifn c h
    refine J_aload_n d_X_type_10 rfl ?_
    refine J_get (j := 8) (v := .int (s 3)) d_X_type_11 (wX_at0 _ _) rfl in_0 (by decide) ts_28 rfl ?_
    refine J_if_ne (tgt := 20) d_X_type_14 (by decide) (fun c => ?_) (fun c => ?_)
    · have h := j_ifn c h
      refine J_aload_n d_X_type_20 rfl ?_
      refine J_get (j := 1) (v := .ref 4) d_X_type_21 (wX_at0 _ _) rfl in_0 (by decide) ts_112 rfl ?_
      refine J_aload_n d_X_type_24 rfl ?_
      refine J_get (j := 4) (v := .ref 12) d_X_type_25 (wX_at0 _ _) rfl in_0 (by decide) ts_247 rfl ?_
      refine J_iload_n d_X_type_28 rfl ?_
      obtain ⟨g, h⟩ := jg_some h
      refine J_iald (f := (a 12)) d_X_type_29 (wX_at12 _ _) (jin_in g) ?_
      refine J_bipush (v := (20 : Int32)) d_X_type_30 (by decide) ?_
      obtain ⟨v6, s4, a5, e3, h⟩ := jb3_some h
      refine J_cVi2 d_X_type_32 (c_XR_decide l _ _ _ _ _ e3) (wX_at4 _ _) rfl ts_143 ts_good rfl rfl ts_122 ts_144 dy_XR_decide (by decide) (Nat.le_of_ble_eq_true rfl) ts_145 ts_146 ?_
      refine J_iconst (v := (1 : Int32)) d_X_type_35 (by decide) ?_
      refine J_icmp_ne (tgt := 42) d_X_type_36 (by decide) (fun c => ?_) (fun c => ?_)
      · have h := j_ifn c h
        refine J_aload_n d_X_type_42 rfl ?_
        refine J_get (j := 3) (v := .ref 11) d_X_type_43 (wX_at0 _ _) rfl in_0 (by decide) ts_147 rfl ?_
        refine J_aload_n d_X_type_46 rfl ?_
        refine J_get (j := 3) (v := .ref 11) d_X_type_47 (wX_at0 _ _) rfl in_0 (by decide) ts_147 rfl ?_
        refine J_aload_n d_X_type_50 rfl ?_
        refine J_get (j := 1) (v := .ref 4) d_X_type_51 (wX_at0 _ _) rfl in_0 (by decide) ts_112 rfl ?_
        obtain ⟨v8, e7, h⟩ := jb_some h
        refine J_cVi0 d_X_type_54 (c_XR_facts l _ _ _ e7) (wX_at4 _ _) rfl ts_248 ts_good rfl rfl ts_122 ts_249 dy_XR_facts (by decide) (Nat.le_of_ble_eq_true rfl) ts_250 ts_251 ?_
        obtain ⟨v10, e9, h⟩ := jb_some h
        refine J_cVi1 d_X_type_57 (c_XO_lowestAmong l _ _ _ _ e9) (wX_at11 _ _) rfl ts_225 ts_good rfl rfl ts_160 ts_252 dy_XO_lowestAmong (by decide) (Nat.le_of_ble_eq_true rfl) ts_227 ts_228 ?_
        obtain ⟨v12, e11, h⟩ := jb_some h
        refine J_cVi1 d_X_type_60 (c_XO_firstOfSame l _ _ _ _ e11) (wX_at11 _ _) rfl ts_209 ts_good rfl rfl ts_160 ts_210 dy_XO_firstOfSame (by decide) (Nat.le_of_ble_eq_true rfl) ts_211 ts_212 ?_
        refine J_iload_n d_X_type_63 rfl ?_
        obtain ⟨v14, e13, h⟩ := jb_some h
        refine J_cSi2 d_X_type_64 (c_X_pick l _ _ _ _ e13) ts_214 ts_good rfl rfl ts_4 ts_215 dy_X_pick (by decide) (Nat.le_of_ble_eq_true rfl) ts_216 ?_
        exact J_iret d_X_type_67 rfl rfl (by cases h; exact ⟨rfl, rfl⟩)
      · have h := j_ifp c h
        refine J_bipush (v := (-5 : Int32)) d_X_type_39 (by decide) ?_
        exact J_iret d_X_type_41 rfl rfl (by cases h; exact ⟨rfl, rfl⟩)
    · have h := j_ifp c h
      refine J_bipush (v := (-3 : Int32)) d_X_type_17 (by decide) ?_
      exact J_iret d_X_type_19 rfl rfl (by cases h; exact ⟨rfl, rfl⟩)
  · have h := j_ifp c h
    refine J_iconst (v := (-1 : Int32)) d_X_type_8 (by decide) ?_
    exact J_iret d_X_type_9 rfl rfl (by cases h; exact ⟨rfl, rfl⟩)
abbrev rm_XR_neededSteps : Room := { frames := 2, cells := 0, slots := 0, locals := 41 }
abbrev K_XR_neededSteps (l : Launch) := JW l vwCl NsG TsG "ClassifySort$Reasoner" prog_5_method_6_code 4 (some .int) rm_XR_neededSteps
def L_XR_neededSteps_42 (s : jS) (a : jB) (k95 : Int32 → Option (Int32)) : Nat → Int32 → Int32 → Int32 → Option (Int32)
  | 0, _, _, _ => none
  | f + 1, x1, x2, x3 => (if x3 < (0 : Int32) then k95 (x1) else jg (jin x3 20) (jb (m_XA_rightOf s a ((a 5) (x3).toNatClampNeg)) (fun v3 => jb (m_X_has x2 v3) (fun v5 => (if v5 = (0 : Int32) then L_XR_neededSteps_42 s a k95 f (x1) (x2) ((x3 + (-1 : Int32))) else jb (m_X_bit x3) (fun v7 => jg (jin x3 20) (jb (m_XA_leftOf s a ((a 5) (x3).toNatClampNeg)) (fun v9 => L_XR_neededSteps_42 s a k95 f ((x1 ||| v7)) ((x2 ||| v9)) ((x3 + (-1 : Int32)))))))))))
set_option maxRecDepth 100000 in
set_option maxHeartbeats 4000000 in
theorem JL_XR_neededSteps_42 (l : Launch) (s : jS) (a : jB) (k95 : Int32 → Option (Int32)) (r : Int32) (hk95 : ∀ (x1 : Int32) (o2 : Option Value) (o3 : Option Value), k95 x1 = some r → K_XR_neededSteps l 95 [some (.ref 4), some (.int x1), o2, o3] [] (wX s a) (fun v w => v = some (.int r) ∧ w = wX s a)) : ∀ (f : Nat), ∀ (x1 : Int32) (x2 : Int32) (x3 : Int32), L_XR_neededSteps_42 s a k95 f x1 x2 x3 = some r → K_XR_neededSteps l 42 [some (.ref 4), some (.int x1), some (.int x2), some (.int x3)] [] (wX s a) (fun v w => v = some (.int r) ∧ w = wX s a) := by
  intro f
  induction f with
  | zero =>
    intro x1 x2 x3 h
    cases h
  | succ f ih =>
    intro x1 x2 x3 h
    rw [L_XR_neededSteps_42] at h
    refine J_iload_n d_XR_neededSteps_42 rfl ?_
    refine J_if_lt (tgt := 95) d_XR_neededSteps_43 (by decide) (fun c => ?_) (fun c => ?_)
    · have h := j_ifp c h
      exact hk95 _ _ _ h
    · have h := j_ifn c h
      refine J_iload_n d_XR_neededSteps_46 rfl ?_
      refine J_aload_n d_XR_neededSteps_47 rfl ?_
      refine J_get (j := 0) (v := .ref 1) d_XR_neededSteps_48 (wX_at4 _ _) rfl in_2 (by decide) ts_136 rfl ?_
      refine J_aload_n d_XR_neededSteps_51 rfl ?_
      refine J_get (j := 1) (v := .ref 5) d_XR_neededSteps_52 (wX_at4 _ _) rfl in_2 (by decide) ts_141 rfl ?_
      refine J_iload_n d_XR_neededSteps_55 rfl ?_
      obtain ⟨g, h⟩ := jg_some h
      refine J_iald (f := (a 5)) d_XR_neededSteps_56 (wX_at5 _ _) (jin_in g) ?_
      obtain ⟨v3, e2, h⟩ := jb_some h
      refine J_cVi1 d_XR_neededSteps_57 (c_XA_rightOf l _ _ _ _ e2) (wX_at1 _ _) rfl ts_80 ts_good rfl rfl ts_41 ts_142 dy_XA_rightOf (by decide) (Nat.le_of_ble_eq_true rfl) ts_82 ts_83 ?_
      obtain ⟨v5, e4, h⟩ := jb_some h
      refine J_cSi2N d_XR_neededSteps_60 (c_X_has l _ _ _ _ e4) ts_8 ts_good rfl rfl ts_4 ns_7 dy_X_has (by decide) (Nat.le_of_ble_eq_true rfl) ts_9 ?_
      refine J_if_eq (tgt := 89) d_XR_neededSteps_63 (by decide) (fun c => ?_) (fun c => ?_)
      · have h := j_ifp c h
        refine J_iinc (v := (x3 + (-1 : Int32))) d_XR_neededSteps_89 rfl (by first | rfl | decide) (by decide) ?_
        refine J_goto (tgt := 42) d_XR_neededSteps_92 (by decide) ?_
        exact ih _ _ _ h
      · have h := j_ifn c h
        refine J_iload_n d_XR_neededSteps_66 rfl ?_
        refine J_iload_n d_XR_neededSteps_67 rfl ?_
        obtain ⟨v7, e6, h⟩ := jb_some h
        refine J_cSi1N d_XR_neededSteps_68 (c_X_bit l _ _ _ e6) ts_3 ts_good rfl rfl ts_4 ns_3 dy_X_bit (by decide) (Nat.le_of_ble_eq_true rfl) ts_5 ?_
        refine J_ior d_XR_neededSteps_71 ?_
        refine J_istore_n d_XR_neededSteps_72 (by decide) ?_
        refine J_iload_n d_XR_neededSteps_73 rfl ?_
        refine J_aload_n d_XR_neededSteps_74 rfl ?_
        refine J_get (j := 0) (v := .ref 1) d_XR_neededSteps_75 (wX_at4 _ _) rfl in_2 (by decide) ts_136 rfl ?_
        refine J_aload_n d_XR_neededSteps_78 rfl ?_
        refine J_get (j := 1) (v := .ref 5) d_XR_neededSteps_79 (wX_at4 _ _) rfl in_2 (by decide) ts_141 rfl ?_
        refine J_iload_n d_XR_neededSteps_82 rfl ?_
        obtain ⟨g, h⟩ := jg_some h
        refine J_iald (f := (a 5)) d_XR_neededSteps_83 (wX_at5 _ _) (jin_in g) ?_
        obtain ⟨v9, e8, h⟩ := jb_some h
        refine J_cVi1 d_XR_neededSteps_84 (c_XA_leftOf l _ _ _ _ e8) (wX_at1 _ _) rfl ts_56 ts_good rfl rfl ts_41 ts_253 dy_XA_leftOf (by decide) (Nat.le_of_ble_eq_true rfl) ts_58 ts_59 ?_
        refine J_ior d_XR_neededSteps_87 ?_
        refine J_istore_n d_XR_neededSteps_88 (by decide) ?_
        refine J_iinc (v := (x3 + (-1 : Int32))) d_XR_neededSteps_89 rfl (by first | rfl | decide) (by decide) ?_
        refine J_goto (tgt := 42) d_XR_neededSteps_92 (by decide) ?_
        exact ih _ _ _ h
def m_XR_neededSteps (s : jS) (a : jB) : Option (Int32) := jb (if (s 7) ≤ (0 : Int32) then some (0 : Int32) else jg (jin ((s 7) - (1 : Int32)) 20) (jb (m_XA_rightOf s a ((a 5) (((s 7) - (1 : Int32))).toNatClampNeg)) (fun v14 => jb (m_X_bit v14) (fun v16 => some v16)))) (fun b1 => L_XR_neededSteps_42 (s) (a) (fun x10 => some (x10)) jF ((0 : Int32)) (b1) (((s 7) - (1 : Int32))))
set_option maxRecDepth 100000 in
set_option maxHeartbeats 4000000 in
theorem c_XR_neededSteps (l : Launch) (s : jS) (a : jB) (r : Int32) (h : m_XR_neededSteps s a = some r) : JMet l vwCl NsG (.code y_XR_neededSteps prog_5_method_6_code 4 (some .int) :: TsG) y_XR_neededSteps rm_XR_neededSteps [.ref 4] (wX s a) (fun v w => v = some (.int r) ∧ w = wX s a) := by
  refine J_enter (by decide +kernel) rfl (Nat.le_of_ble_eq_true rfl) ?_
  unfold m_XR_neededSteps at h
  refine J_eq (ls' := [some (.ref 4), none, none, none]) rfl rfl rfl rfl ?_
  refine J_iconst (v := (0 : Int32)) d_XR_neededSteps_0 (by decide) ?_
  refine J_istore_n d_XR_neededSteps_1 (by decide) ?_
  refine J_aload_n d_XR_neededSteps_2 rfl ?_
  refine J_get (j := 3) (v := .int (s 7)) d_XR_neededSteps_3 (wX_at4 _ _) rfl in_2 (by decide) ts_135 rfl ?_
  obtain ⟨b1, hb1, h⟩ := jb_some h
  have kb1 : K_XR_neededSteps l 34 [some (.ref 4), some (.int (0 : Int32)), none, none] [.int b1] (wX s a) (fun v w => v = some (.int r) ∧ w = wX s a) := by
    refine J_istore_n d_XR_neededSteps_34 (by decide) ?_
    refine J_aload_n d_XR_neededSteps_35 rfl ?_
    refine J_get (j := 3) (v := .int (s 7)) d_XR_neededSteps_36 (wX_at4 _ _) rfl in_2 (by decide) ts_135 rfl ?_
    refine J_iconst (v := (1 : Int32)) d_XR_neededSteps_39 (by decide) ?_
    refine J_isub d_XR_neededSteps_40 ?_
    refine J_istore_n d_XR_neededSteps_41 (by decide) ?_
    refine JL_XR_neededSteps_42 l _ _ _ r (fun x10 o11 o12 h => ?_) jF _ _ _ h
    refine J_iload_n d_XR_neededSteps_95 rfl ?_
    exact J_iret d_XR_neededSteps_96 rfl rfl (by cases h; exact ⟨rfl, rfl⟩)
  clear h
  have h := hb1
  refine J_if_le (tgt := 33) d_XR_neededSteps_6 (by decide) (fun c => ?_) (fun c => ?_)
  · have h := j_ifp c h
    refine J_iconst (v := (0 : Int32)) d_XR_neededSteps_33 (by decide) ?_
    cases h
    exact kb1
  · have h := j_ifn c h
    refine J_aload_n d_XR_neededSteps_9 rfl ?_
    refine J_get (j := 0) (v := .ref 1) d_XR_neededSteps_10 (wX_at4 _ _) rfl in_2 (by decide) ts_136 rfl ?_
    refine J_aload_n d_XR_neededSteps_13 rfl ?_
    refine J_get (j := 1) (v := .ref 5) d_XR_neededSteps_14 (wX_at4 _ _) rfl in_2 (by decide) ts_141 rfl ?_
    refine J_aload_n d_XR_neededSteps_17 rfl ?_
    refine J_get (j := 3) (v := .int (s 7)) d_XR_neededSteps_18 (wX_at4 _ _) rfl in_2 (by decide) ts_135 rfl ?_
    refine J_iconst (v := (1 : Int32)) d_XR_neededSteps_21 (by decide) ?_
    refine J_isub d_XR_neededSteps_22 ?_
    obtain ⟨g, h⟩ := jg_some h
    refine J_iald (f := (a 5)) d_XR_neededSteps_23 (wX_at5 _ _) (jin_in g) ?_
    obtain ⟨v14, e13, h⟩ := jb_some h
    refine J_cVi1 d_XR_neededSteps_24 (c_XA_rightOf l _ _ _ _ e13) (wX_at1 _ _) rfl ts_80 ts_good rfl rfl ts_41 ts_142 dy_XA_rightOf (by decide) (Nat.le_of_ble_eq_true rfl) ts_82 ts_83 ?_
    obtain ⟨v16, e15, h⟩ := jb_some h
    refine J_cSi1N d_XR_neededSteps_27 (c_X_bit l _ _ _ e15) ts_3 ts_good rfl rfl ts_4 ns_3 dy_X_bit (by decide) (Nat.le_of_ble_eq_true rfl) ts_5 ?_
    refine J_goto (tgt := 34) d_XR_neededSteps_30 (by decide) ?_
    cases h
    exact kb1
abbrev rm_XR_firedAt : Room := { frames := 0, cells := 0, slots := 0, locals := 0 }
abbrev K_XR_firedAt (l : Launch) := JW l vwCl NsG TsG "ClassifySort$Reasoner" prog_5_method_4_code 2 (some .int) rm_XR_firedAt
def m_XR_firedAt (s : jS) (a : jB) (p0 : Int32) : Option (Int32) := jb (if p0 < (0 : Int32) then some (-6 : Int32) else (if (s 7) ≤ p0 then some (-6 : Int32) else jg (jin p0 20) (some ((a 5) (p0).toNatClampNeg)))) (fun b1 => some (b1))
set_option maxRecDepth 100000 in
set_option maxHeartbeats 4000000 in
theorem c_XR_firedAt (l : Launch) (s : jS) (a : jB) (p0 : Int32) (r : Int32) (h : m_XR_firedAt s a p0 = some r) : JMet l vwCl NsG (.code y_XR_firedAt prog_5_method_4_code 2 (some .int) :: TsG) y_XR_firedAt rm_XR_firedAt [.ref 4, .int p0] (wX s a) (fun v w => v = some (.int r) ∧ w = wX s a) := by
  refine J_enter (by decide +kernel) rfl (Nat.le_of_ble_eq_true rfl) ?_
  unfold m_XR_firedAt at h
  refine J_eq (ls' := [some (.ref 4), some (.int p0)]) rfl rfl rfl rfl ?_
  refine J_iload_n d_XR_firedAt_0 rfl ?_
  obtain ⟨b1, hb1, h⟩ := jb_some h
  have kb1 : K_XR_firedAt l 23 [some (.ref 4), some (.int p0)] [.int b1] (wX s a) (fun v w => v = some (.int r) ∧ w = wX s a) := by
    exact J_iret d_XR_firedAt_23 rfl rfl (by cases h; exact ⟨rfl, rfl⟩)
  clear h
  have h := hb1
  refine J_if_lt (tgt := 21) d_XR_firedAt_1 (by decide) (fun c => ?_) (fun c => ?_)
  · have h := j_ifp c h
    refine J_bipush (v := (-6 : Int32)) d_XR_firedAt_21 (by decide) ?_
    cases h
    exact kb1
  · have h := j_ifn c h
    refine J_iload_n d_XR_firedAt_4 rfl ?_
    refine J_aload_n d_XR_firedAt_5 rfl ?_
    refine J_get (j := 3) (v := .int (s 7)) d_XR_firedAt_6 (wX_at4 _ _) rfl in_2 (by decide) ts_135 rfl ?_
    refine J_icmp_ge (tgt := 21) d_XR_firedAt_9 (by decide) (fun c => ?_) (fun c => ?_)
    · have h := j_ifp c h
      refine J_bipush (v := (-6 : Int32)) d_XR_firedAt_21 (by decide) ?_
      cases h
      exact kb1
    · have h := j_ifn c h
      refine J_aload_n d_XR_firedAt_12 rfl ?_
      refine J_get (j := 1) (v := .ref 5) d_XR_firedAt_13 (wX_at4 _ _) rfl in_2 (by decide) ts_141 rfl ?_
      refine J_iload_n d_XR_firedAt_16 rfl ?_
      obtain ⟨g, h⟩ := jg_some h
      refine J_iald (f := (a 5)) d_XR_firedAt_17 (wX_at5 _ _) (jin_in g) ?_
      refine J_goto (tgt := 23) d_XR_firedAt_18 (by decide) ?_
      cases h
      exact kb1
abbrev rm_X_trace : Room := { frames := 4, cells := 0, slots := 0, locals := 89 }
abbrev K_X_trace (l : Launch) := JW l vwCl NsG TsG "ClassifySort" prog_1_method_17_code 5 (some .int) rm_X_trace
def m_X_trace (s : jS) (a : jB) (p0 : Int32) (p1 : Int32) (p2 : Int32) : Option (Int32 × jS × jB) := jb (m_X_isClass s a p0) (fun v2 => (if v2 = (0 : Int32) then some ((-1 : Int32), s, a) else jb (m_X_isGoal s a p1) (fun v4 => (if v4 = (0 : Int32) then some ((-1 : Int32), s, a) else jb (m_X_bit p0) (fun v6 => jb (m_X_slot p1) (fun v8 => jb3 (m_XR_decide s a v6 v8) (fun v12 s10 a11 => (if v12 = (1 : Int32) then jb (m_XR_neededSteps s10 a11) (fun v14 => jb (m_X_pick v14 p2) (fun v16 => jb (if v16 = (-6 : Int32) then some (-6 : Int32) else jb (m_XR_firedAt s10 a11 v16) (fun v19 => some v19)) (fun b17 => some (b17, s10, a11)))) else some ((-6 : Int32), s10, a11)))))))))
set_option maxRecDepth 100000 in
set_option maxHeartbeats 4000000 in
theorem c_X_trace (l : Launch) (s : jS) (a : jB) (p0 : Int32) (p1 : Int32) (p2 : Int32) (r : Int32 × jS × jB) (h : m_X_trace s a p0 p1 p2 = some r) : JMet l vwCl NsG (.code y_X_trace prog_1_method_17_code 5 (some .int) :: TsG) y_X_trace rm_X_trace [.ref 0, .int p0, .int p1, .int p2] (wX s a) (fun v w => v = some (.int r.1) ∧ w = wX r.2.1 r.2.2) := by
  refine J_enter (by decide +kernel) rfl (Nat.le_of_ble_eq_true rfl) ?_
  unfold m_X_trace at h
  refine J_eq (ls' := [some (.ref 0), some (.int p0), some (.int p1), some (.int p2), none]) rfl rfl rfl rfl ?_
  refine J_aload_n d_X_trace_0 rfl ?_
  refine J_iload_n d_X_trace_1 rfl ?_
  obtain ⟨v2, e1, h⟩ := jb_some h
  refine J_cVi1 d_X_trace_2 (c_X_isClass l _ _ _ _ e1) (wX_at0 _ _) rfl ts_30 ts_good rfl rfl ts_4 ts_31 dy_X_isClass (by decide) (Nat.le_of_ble_eq_true rfl) ts_32 ts_33 ?_
  refine J_if_eq (tgt := 16) d_X_trace_5 (by decide) (fun c => ?_) (fun c => ?_)
  · have h := j_ifp c h
    refine J_iconst (v := (-1 : Int32)) d_X_trace_16 (by decide) ?_
    exact J_iret d_X_trace_17 rfl rfl (by cases h; exact ⟨rfl, rfl⟩)
  · have h := j_ifn c h
    refine J_aload_n d_X_trace_8 rfl ?_
    refine J_iload_n d_X_trace_9 rfl ?_
    obtain ⟨v4, e3, h⟩ := jb_some h
    refine J_cVi1 d_X_trace_10 (c_X_isGoal l _ _ _ _ e3) (wX_at0 _ _) rfl ts_34 ts_good rfl rfl ts_4 ts_35 dy_X_isGoal (by decide) (Nat.le_of_ble_eq_true rfl) ts_36 ts_37 ?_
    refine J_if_ne (tgt := 18) d_X_trace_13 (by decide) (fun c => ?_) (fun c => ?_)
    · have h := j_ifn c h
      refine J_aload_n d_X_trace_18 rfl ?_
      refine J_get (j := 1) (v := .ref 4) d_X_trace_19 (wX_at0 _ _) rfl in_0 (by decide) ts_112 rfl ?_
      refine J_iload_n d_X_trace_22 rfl ?_
      obtain ⟨v6, e5, h⟩ := jb_some h
      refine J_cSi1 d_X_trace_23 (c_X_bit l _ _ _ e5) ts_3 ts_good rfl rfl ts_4 ts_7 dy_X_bit (by decide) (Nat.le_of_ble_eq_true rfl) ts_5 ?_
      refine J_iload_n d_X_trace_26 rfl ?_
      obtain ⟨v8, e7, h⟩ := jb_some h
      refine J_cSi1 d_X_trace_27 (c_X_slot l _ _ _ e7) ts_45 ts_good rfl rfl ts_4 ts_46 dy_X_slot (by decide) (Nat.le_of_ble_eq_true rfl) ts_47 ?_
      obtain ⟨v12, s10, a11, e9, h⟩ := jb3_some h
      refine J_cVi2 d_X_trace_30 (c_XR_decide l _ _ _ _ _ e9) (wX_at4 _ _) rfl ts_143 ts_good rfl rfl ts_122 ts_144 dy_XR_decide (by decide) (Nat.le_of_ble_eq_true rfl) ts_145 ts_146 ?_
      refine J_iconst (v := (1 : Int32)) d_X_trace_33 (by decide) ?_
      refine J_icmp_eq (tgt := 40) d_X_trace_34 (by decide) (fun c => ?_) (fun c => ?_)
      · have h := j_ifp c h
        refine J_aload_n d_X_trace_40 rfl ?_
        refine J_get (j := 1) (v := .ref 4) d_X_trace_41 (wX_at0 _ _) rfl in_0 (by decide) ts_112 rfl ?_
        obtain ⟨v14, e13, h⟩ := jb_some h
        refine J_cVi0 d_X_trace_44 (c_XR_neededSteps l _ _ _ e13) (wX_at4 _ _) rfl ts_254 ts_good rfl rfl ts_122 ts_255 dy_XR_neededSteps (by decide) (Nat.le_of_ble_eq_true rfl) ts_256 ts_257 ?_
        refine J_iload_n d_X_trace_47 rfl ?_
        obtain ⟨v16, e15, h⟩ := jb_some h
        refine J_cSi2 d_X_trace_48 (c_X_pick l _ _ _ _ e15) ts_214 ts_good rfl rfl ts_4 ts_215 dy_X_pick (by decide) (Nat.le_of_ble_eq_true rfl) ts_216 ?_
        refine J_istore d_X_trace_51 (by decide) ?_
        refine J_iload d_X_trace_53 rfl ?_
        refine J_bipush (v := (-6 : Int32)) d_X_trace_55 (by decide) ?_
        obtain ⟨b17, hb17, h⟩ := jb_some h
        have kb17 : K_X_trace l 74 [some (.ref 0), some (.int p0), some (.int p1), some (.int p2), some (.int v16)] [.int b17] (wX s10 a11) (fun v w => v = some (.int r.1) ∧ w = wX r.2.1 r.2.2) := by
          exact J_iret d_X_trace_74 rfl rfl (by cases h; exact ⟨rfl, rfl⟩)
        clear h
        have h := hb17
        refine J_icmp_ne (tgt := 65) d_X_trace_57 (by decide) (fun c => ?_) (fun c => ?_)
        · have h := j_ifn c h
          refine J_aload_n d_X_trace_65 rfl ?_
          refine J_get (j := 1) (v := .ref 4) d_X_trace_66 (wX_at0 _ _) rfl in_0 (by decide) ts_112 rfl ?_
          refine J_iload d_X_trace_69 rfl ?_
          obtain ⟨v19, e18, h⟩ := jb_some h
          refine J_cVi1 d_X_trace_71 (c_XR_firedAt l _ _ _ _ e18) (wX_at4 _ _) rfl ts_258 ts_good rfl rfl ts_122 ts_259 dy_XR_firedAt (by decide) (Nat.le_of_ble_eq_true rfl) ts_260 ts_261 ?_
          cases h
          exact kb17
        · have h := j_ifp c h
          refine J_bipush (v := (-6 : Int32)) d_X_trace_60 (by decide) ?_
          refine J_goto (tgt := 74) d_X_trace_62 (by decide) ?_
          cases h
          exact kb17
      · have h := j_ifn c h
        refine J_bipush (v := (-6 : Int32)) d_X_trace_37 (by decide) ?_
        exact J_iret d_X_trace_39 rfl rfl (by cases h; exact ⟨rfl, rfl⟩)
    · have h := j_ifp c h
      refine J_iconst (v := (-1 : Int32)) d_X_trace_16 (by decide) ?_
      exact J_iret d_X_trace_17 rfl rfl (by cases h; exact ⟨rfl, rfl⟩)
abbrev rm_XA_thereNow : Room := { frames := 0, cells := 0, slots := 0, locals := 0 }
abbrev K_XA_thereNow (l : Launch) := JW l vwCl NsG TsG "ClassifySort$Axioms" prog_2_method_4_code 1 (some .int) rm_XA_thereNow
def m_XA_thereNow (s : jS) (a : jB) : Option (Int32) := some ((s 5))
set_option maxRecDepth 100000 in
set_option maxHeartbeats 4000000 in
theorem c_XA_thereNow (l : Launch) (s : jS) (a : jB) (r : Int32) (h : m_XA_thereNow s a = some r) : JMet l vwCl NsG (.code y_XA_thereNow prog_2_method_4_code 1 (some .int) :: TsG) y_XA_thereNow rm_XA_thereNow [.ref 1] (wX s a) (fun v w => v = some (.int r) ∧ w = wX s a) := by
  refine J_enter (by decide +kernel) rfl (Nat.le_of_ble_eq_true rfl) ?_
  unfold m_XA_thereNow at h
  refine J_eq (ls' := [some (.ref 1)]) rfl rfl rfl rfl ?_
  refine J_aload_n d_XA_thereNow_0 rfl ?_
  refine J_get (j := 3) (v := .int (s 5)) d_XA_thereNow_1 (wX_at1 _ _) rfl in_1 (by decide) ts_51 rfl ?_
  exact J_iret d_XA_thereNow_4 rfl rfl (by cases h; exact ⟨rfl, rfl⟩)
abbrev rm_XO_placedClasses : Room := { frames := 0, cells := 0, slots := 0, locals := 0 }
abbrev K_XO_placedClasses (l : Launch) := JW l vwCl NsG TsG "ClassifySort$Order" prog_4_method_2_code 1 (some .int) rm_XO_placedClasses
def m_XO_placedClasses (s : jS) (a : jB) : Option (Int32) := some ((s 9))
set_option maxRecDepth 100000 in
set_option maxHeartbeats 4000000 in
theorem c_XO_placedClasses (l : Launch) (s : jS) (a : jB) (r : Int32) (h : m_XO_placedClasses s a = some r) : JMet l vwCl NsG (.code y_XO_placedClasses prog_4_method_2_code 1 (some .int) :: TsG) y_XO_placedClasses rm_XO_placedClasses [.ref 11] (wX s a) (fun v w => v = some (.int r) ∧ w = wX s a) := by
  refine J_enter (by decide +kernel) rfl (Nat.le_of_ble_eq_true rfl) ?_
  unfold m_XO_placedClasses at h
  refine J_eq (ls' := [some (.ref 11)]) rfl rfl rfl rfl ?_
  refine J_aload_n d_XO_placedClasses_0 rfl ?_
  refine J_get (j := 2) (v := .int (s 9)) d_XO_placedClasses_1 (wX_at11 _ _) rfl in_4 (by decide) ts_148 rfl ?_
  exact J_iret d_XO_placedClasses_4 rfl rfl (by cases h; exact ⟨rfl, rfl⟩)
abbrev rm_X_count : Room := { frames := 2, cells := 0, slots := 0, locals := 43 }
abbrev K_X_count (l : Launch) := JW l vwCl NsG TsG "ClassifySort" prog_1_method_18_code 2 (some .int) rm_X_count
def m_X_count (s : jS) (a : jB) (p0 : Int32) : Option (Int32) := (if p0 = (0 : Int32) then some ((s 0)) else (if p0 = (1 : Int32) then jb (m_XA_thereNow s a) (fun v2 => some (v2)) else (if p0 = (2 : Int32) then some ((s 1)) else (if p0 = (3 : Int32) then some ((s 2)) else (if p0 = (4 : Int32) then jb (m_XK_openPairs s a (s 0)) (fun v4 => some (v4)) else (if p0 = (5 : Int32) then jb (if (s 3) = (0 : Int32) then some (0 : Int32) else some (1 : Int32)) (fun b5 => some (b5)) else (if p0 = (6 : Int32) then jb (if (s 3) = (0 : Int32) then some (0 : Int32) else jb (m_XO_placedClasses s a) (fun v8 => jb (m_JI_bitCount v8) (fun v10 => some v10))) (fun b6 => some (b6)) else some ((-2 : Int32)))))))))
set_option maxRecDepth 100000 in
set_option maxHeartbeats 4000000 in
theorem c_X_count (l : Launch) (s : jS) (a : jB) (p0 : Int32) (r : Int32) (h : m_X_count s a p0 = some r) : JMet l vwCl NsG (.code y_X_count prog_1_method_18_code 2 (some .int) :: TsG) y_X_count rm_X_count [.ref 0, .int p0] (wX s a) (fun v w => v = some (.int r) ∧ w = wX s a) := by
  refine J_enter (by decide +kernel) rfl (Nat.le_of_ble_eq_true rfl) ?_
  unfold m_X_count at h
  refine J_eq (ls' := [some (.ref 0), some (.int p0)]) rfl rfl rfl rfl ?_
  refine J_iload_n d_X_count_0 rfl ?_
  by_cases c0 : p0 = (0 : Int32)
  · have h := j_ifp c0 h
    refine J_tabIn (k := (0 : Int32)) (tgt := 44) d_X_count_1 c0 (by decide) (by decide) rfl (by decide) ?_
    refine J_aload_n d_X_count_44 rfl ?_
    refine J_get (j := 5) (v := .int (s 0)) d_X_count_45 (wX_at0 _ _) rfl in_0 (by decide) ts_0 rfl ?_
    exact J_iret d_X_count_48 rfl rfl (by cases h; exact ⟨rfl, rfl⟩)
  have h := j_ifn c0 h
  by_cases c1 : p0 = (1 : Int32)
  · have h := j_ifp c1 h
    refine J_tabIn (k := (1 : Int32)) (tgt := 49) d_X_count_1 c1 (by decide) (by decide) rfl (by decide) ?_
    refine J_aload_n d_X_count_49 rfl ?_
    refine J_get (j := 0) (v := .ref 1) d_X_count_50 (wX_at0 _ _) rfl in_0 (by decide) ts_38 rfl ?_
    obtain ⟨v2, e1, h⟩ := jb_some h
    refine J_cVi0 d_X_count_53 (c_XA_thereNow l _ _ _ e1) (wX_at1 _ _) rfl ts_262 ts_good rfl rfl ts_41 ts_263 dy_XA_thereNow (by decide) (Nat.le_of_ble_eq_true rfl) ts_264 ts_265 ?_
    exact J_iret d_X_count_56 rfl rfl (by cases h; exact ⟨rfl, rfl⟩)
  have h := j_ifn c1 h
  by_cases c2 : p0 = (2 : Int32)
  · have h := j_ifp c2 h
    refine J_tabIn (k := (2 : Int32)) (tgt := 57) d_X_count_1 c2 (by decide) (by decide) rfl (by decide) ?_
    refine J_aload_n d_X_count_57 rfl ?_
    refine J_get (j := 6) (v := .int (s 1)) d_X_count_58 (wX_at0 _ _) rfl in_0 (by decide) ts_29 rfl ?_
    exact J_iret d_X_count_61 rfl rfl (by cases h; exact ⟨rfl, rfl⟩)
  have h := j_ifn c2 h
  by_cases c3 : p0 = (3 : Int32)
  · have h := j_ifp c3 h
    refine J_tabIn (k := (3 : Int32)) (tgt := 62) d_X_count_1 c3 (by decide) (by decide) rfl (by decide) ?_
    refine J_aload_n d_X_count_62 rfl ?_
    refine J_get (j := 7) (v := .int (s 2)) d_X_count_63 (wX_at0 _ _) rfl in_0 (by decide) ts_200 rfl ?_
    exact J_iret d_X_count_66 rfl rfl (by cases h; exact ⟨rfl, rfl⟩)
  have h := j_ifn c3 h
  by_cases c4 : p0 = (4 : Int32)
  · have h := j_ifp c4 h
    refine J_tabIn (k := (4 : Int32)) (tgt := 67) d_X_count_1 c4 (by decide) (by decide) rfl (by decide) ?_
    refine J_aload_n d_X_count_67 rfl ?_
    refine J_get (j := 2) (v := .ref 6) d_X_count_68 (wX_at0 _ _) rfl in_0 (by decide) ts_1 rfl ?_
    refine J_aload_n d_X_count_71 rfl ?_
    refine J_get (j := 5) (v := .int (s 0)) d_X_count_72 (wX_at0 _ _) rfl in_0 (by decide) ts_0 rfl ?_
    obtain ⟨v4, e3, h⟩ := jb_some h
    refine J_cVi1 d_X_count_75 (c_XK_openPairs l _ _ _ _ e3) (wX_at6 _ _) rfl ts_108 ts_good rfl rfl ts_11 ts_109 dy_XK_openPairs (by decide) (Nat.le_of_ble_eq_true rfl) ts_110 ts_111 ?_
    exact J_iret d_X_count_78 rfl rfl (by cases h; exact ⟨rfl, rfl⟩)
  have h := j_ifn c4 h
  by_cases c5 : p0 = (5 : Int32)
  · have h := j_ifp c5 h
    refine J_tabIn (k := (5 : Int32)) (tgt := 79) d_X_count_1 c5 (by decide) (by decide) rfl (by decide) ?_
    refine J_aload_n d_X_count_79 rfl ?_
    refine J_get (j := 8) (v := .int (s 3)) d_X_count_80 (wX_at0 _ _) rfl in_0 (by decide) ts_28 rfl ?_
    obtain ⟨b5, hb5, h⟩ := jb_some h
    have kb5 : K_X_count l 91 [some (.ref 0), some (.int p0)] [.int b5] (wX s a) (fun v w => v = some (.int r) ∧ w = wX s a) := by
      exact J_iret d_X_count_91 rfl rfl (by cases h; exact ⟨rfl, rfl⟩)
    clear h
    have h := hb5
    refine J_if_eq (tgt := 90) d_X_count_83 (by decide) (fun c => ?_) (fun c => ?_)
    · have h := j_ifp c h
      refine J_iconst (v := (0 : Int32)) d_X_count_90 (by decide) ?_
      cases h
      exact kb5
    · have h := j_ifn c h
      refine J_iconst (v := (1 : Int32)) d_X_count_86 (by decide) ?_
      refine J_goto (tgt := 91) d_X_count_87 (by decide) ?_
      cases h
      exact kb5
  have h := j_ifn c5 h
  by_cases c6 : p0 = (6 : Int32)
  · have h := j_ifp c6 h
    refine J_tabIn (k := (6 : Int32)) (tgt := 92) d_X_count_1 c6 (by decide) (by decide) rfl (by decide) ?_
    refine J_aload_n d_X_count_92 rfl ?_
    refine J_get (j := 8) (v := .int (s 3)) d_X_count_93 (wX_at0 _ _) rfl in_0 (by decide) ts_28 rfl ?_
    obtain ⟨b6, hb6, h⟩ := jb_some h
    have kb6 : K_X_count l 113 [some (.ref 0), some (.int p0)] [.int b6] (wX s a) (fun v w => v = some (.int r) ∧ w = wX s a) := by
      exact J_iret d_X_count_113 rfl rfl (by cases h; exact ⟨rfl, rfl⟩)
    clear h
    have h := hb6
    refine J_if_eq (tgt := 112) d_X_count_96 (by decide) (fun c => ?_) (fun c => ?_)
    · have h := j_ifp c h
      refine J_iconst (v := (0 : Int32)) d_X_count_112 (by decide) ?_
      cases h
      exact kb6
    · have h := j_ifn c h
      refine J_aload_n d_X_count_99 rfl ?_
      refine J_get (j := 3) (v := .ref 11) d_X_count_100 (wX_at0 _ _) rfl in_0 (by decide) ts_147 rfl ?_
      obtain ⟨v8, e7, h⟩ := jb_some h
      refine J_cVi0 d_X_count_103 (c_XO_placedClasses l _ _ _ e7) (wX_at11 _ _) rfl ts_266 ts_good rfl rfl ts_160 ts_267 dy_XO_placedClasses (by decide) (Nat.le_of_ble_eq_true rfl) ts_268 ts_269 ?_
      obtain ⟨v10, e9, h⟩ := jb_some h
      refine J_cSi1 d_X_count_106 (c_JI_bitCount l _ _ _ e9) ts_72 ts_good rfl rfl ts_73 ts_74 dy_JI_bitCount (by decide) (Nat.le_of_ble_eq_true rfl) ts_75 ?_
      refine J_goto (tgt := 113) d_X_count_109 (by decide) ?_
      cases h
      exact kb6
  have h := j_ifn c6 h
  refine J_tableOut (tgt := 114) d_X_count_1 (j_out7 c0 c1 c2 c3 c4 c5 c6) (by decide) ?_
  refine J_bipush (v := (-2 : Int32)) d_X_count_114 (by decide) ?_
  exact J_iret d_X_count_116 rfl rfl (by cases h; exact ⟨rfl, rfl⟩)
end

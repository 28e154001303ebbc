section
-- ===== PART A: goes FIRST, ahead of the names: the tables' words, and 'selects' of the private methods out of them =====
/-- a private method of a class that the tables say can be made, by its rows of tables_1 -/
def lw_okq (q : MethodName × Nat) : Prop := (q.1.cls ≠ "java/lang/invoke/MethodHandle" ∧ q.1.cls ≠ "java/lang/invoke/VarHandle") ∧ Cond.instantiable q.1.cls q.2 ∈ tables_1 ∧ Cond.privateMethod q.1 ∈ tables_1 ∧ Cond.instanceMethod q.1 ∈ tables_1
theorem lw_p0 : lw_okq (⟨"ClassifySort", "isClass", "(I)Z"⟩, 9) := ⟨⟨by decide +kernel, by decide +kernel⟩, List.mem_of_getElem? (i := 10) (by decide +kernel), List.mem_of_getElem? (i := 163) (by decide +kernel), List.mem_of_getElem? (i := 164) (by decide +kernel)⟩
theorem lw_p1 : lw_okq (⟨"ClassifySort", "isGoal", "(I)Z"⟩, 9) := ⟨⟨by decide +kernel, by decide +kernel⟩, List.mem_of_getElem? (i := 10) (by decide +kernel), List.mem_of_getElem? (i := 167) (by decide +kernel), List.mem_of_getElem? (i := 168) (by decide +kernel)⟩
theorem lw_p2 : lw_okq (⟨"ClassifySort", "tellAxioms", "()V"⟩, 9) := ⟨⟨by decide +kernel, by decide +kernel⟩, List.mem_of_getElem? (i := 10) (by decide +kernel), List.mem_of_getElem? (i := 196) (by decide +kernel), List.mem_of_getElem? (i := 197) (by decide +kernel)⟩
theorem lw_p3 : lw_okq (⟨"ClassifySort$Order", "answer", "(II)I"⟩, 5) := ⟨⟨by decide +kernel, by decide +kernel⟩, List.mem_of_getElem? (i := 82) (by decide +kernel), List.mem_of_getElem? (i := 292) (by decide +kernel), List.mem_of_getElem? (i := 293) (by decide +kernel)⟩
theorem lw_p4 : lw_okq (⟨"ClassifySort$Order", "searchDown", "(I)V"⟩, 5) := ⟨⟨by decide +kernel, by decide +kernel⟩, List.mem_of_getElem? (i := 82) (by decide +kernel), List.mem_of_getElem? (i := 303) (by decide +kernel), List.mem_of_getElem? (i := 304) (by decide +kernel)⟩
theorem lw_p5 : lw_okq (⟨"ClassifySort$Order", "nextDown", "(II)I"⟩, 5) := ⟨⟨by decide +kernel, by decide +kernel⟩, List.mem_of_getElem? (i := 82) (by decide +kernel), List.mem_of_getElem? (i := 307) (by decide +kernel), List.mem_of_getElem? (i := 308) (by decide +kernel)⟩
theorem lw_p6 : lw_okq (⟨"ClassifySort$Order", "searchUp", "(I)V"⟩, 5) := ⟨⟨by decide +kernel, by decide +kernel⟩, List.mem_of_getElem? (i := 82) (by decide +kernel), List.mem_of_getElem? (i := 320) (by decide +kernel), List.mem_of_getElem? (i := 321) (by decide +kernel)⟩
theorem lw_p7 : lw_okq (⟨"ClassifySort$Order", "nextUp", "(II)I"⟩, 5) := ⟨⟨by decide +kernel, by decide +kernel⟩, List.mem_of_getElem? (i := 82) (by decide +kernel), List.mem_of_getElem? (i := 324) (by decide +kernel), List.mem_of_getElem? (i := 325) (by decide +kernel)⟩
theorem lw_p8 : lw_okq (⟨"ClassifySort", "isThing", "(I)Z"⟩, 9) := ⟨⟨by decide +kernel, by decide +kernel⟩, List.mem_of_getElem? (i := 10) (by decide +kernel), List.mem_of_getElem? (i := 402) (by decide +kernel), List.mem_of_getElem? (i := 403) (by decide +kernel)⟩
theorem lw_p9 : lw_okq (⟨"ClassifySortModel", "close", "()V"⟩, 23) := ⟨⟨by decide +kernel, by decide +kernel⟩, List.mem_of_getElem? (i := 441) (by decide +kernel), List.mem_of_getElem? (i := 521) (by decide +kernel), List.mem_of_getElem? (i := 522) (by decide +kernel)⟩
theorem lw_p10 : lw_okq (⟨"ClassifySortModel", "tellItself", "()V"⟩, 23) := ⟨⟨by decide +kernel, by decide +kernel⟩, List.mem_of_getElem? (i := 441) (by decide +kernel), List.mem_of_getElem? (i := 525) (by decide +kernel), List.mem_of_getElem? (i := 526) (by decide +kernel)⟩
theorem lw_p11 : lw_okq (⟨"ClassifySortModel", "isItself", "(II)Z"⟩, 23) := ⟨⟨by decide +kernel, by decide +kernel⟩, List.mem_of_getElem? (i := 441) (by decide +kernel), List.mem_of_getElem? (i := 529) (by decide +kernel), List.mem_of_getElem? (i := 530) (by decide +kernel)⟩
theorem lw_p12 : lw_okq (⟨"ClassifySortModel", "closeOnce", "()Z"⟩, 23) := ⟨⟨by decide +kernel, by decide +kernel⟩, List.mem_of_getElem? (i := 441) (by decide +kernel), List.mem_of_getElem? (i := 533) (by decide +kernel), List.mem_of_getElem? (i := 534) (by decide +kernel)⟩
theorem lw_p13 : lw_okq (⟨"ClassifySortModel", "isHere", "(I)Z"⟩, 23) := ⟨⟨by decide +kernel, by decide +kernel⟩, List.mem_of_getElem? (i := 441) (by decide +kernel), List.mem_of_getElem? (i := 537) (by decide +kernel), List.mem_of_getElem? (i := 538) (by decide +kernel)⟩
theorem lw_p14 : lw_okq (⟨"ClassifySortModel", "below", "(II)Z"⟩, 23) := ⟨⟨by decide +kernel, by decide +kernel⟩, List.mem_of_getElem? (i := 441) (by decide +kernel), List.mem_of_getElem? (i := 541) (by decide +kernel), List.mem_of_getElem? (i := 542) (by decide +kernel)⟩
theorem lw_p15 : lw_okq (⟨"ClassifySortModel", "spreadNo", "(II)Z"⟩, 23) := ⟨⟨by decide +kernel, by decide +kernel⟩, List.mem_of_getElem? (i := 441) (by decide +kernel), List.mem_of_getElem? (i := 545) (by decide +kernel), List.mem_of_getElem? (i := 546) (by decide +kernel)⟩
def lw_privs_1 : List (MethodName × Nat) := [(⟨"ClassifySort", "isClass", "(I)Z"⟩, 9), (⟨"ClassifySort", "isGoal", "(I)Z"⟩, 9), (⟨"ClassifySort", "tellAxioms", "()V"⟩, 9), (⟨"ClassifySort$Order", "answer", "(II)I"⟩, 5), (⟨"ClassifySort$Order", "searchDown", "(I)V"⟩, 5), (⟨"ClassifySort$Order", "nextDown", "(II)I"⟩, 5), (⟨"ClassifySort$Order", "searchUp", "(I)V"⟩, 5), (⟨"ClassifySort$Order", "nextUp", "(II)I"⟩, 5), (⟨"ClassifySort", "isThing", "(I)Z"⟩, 9), (⟨"ClassifySortModel", "close", "()V"⟩, 23), (⟨"ClassifySortModel", "tellItself", "()V"⟩, 23), (⟨"ClassifySortModel", "isItself", "(II)Z"⟩, 23), (⟨"ClassifySortModel", "closeOnce", "()Z"⟩, 23), (⟨"ClassifySortModel", "isHere", "(I)Z"⟩, 23), (⟨"ClassifySortModel", "below", "(II)Z"⟩, 23), (⟨"ClassifySortModel", "spreadNo", "(II)Z"⟩, 23)]
theorem lw_r1 : ∀ q ∈ lw_privs_1, lw_okq q := List.forall_mem_cons.mpr ⟨lw_p0, List.forall_mem_cons.mpr ⟨lw_p1, List.forall_mem_cons.mpr ⟨lw_p2, List.forall_mem_cons.mpr ⟨lw_p3, List.forall_mem_cons.mpr ⟨lw_p4, List.forall_mem_cons.mpr ⟨lw_p5, List.forall_mem_cons.mpr ⟨lw_p6, List.forall_mem_cons.mpr ⟨lw_p7, List.forall_mem_cons.mpr ⟨lw_p8, List.forall_mem_cons.mpr ⟨lw_p9, List.forall_mem_cons.mpr ⟨lw_p10, List.forall_mem_cons.mpr ⟨lw_p11, List.forall_mem_cons.mpr ⟨lw_p12, List.forall_mem_cons.mpr ⟨lw_p13, List.forall_mem_cons.mpr ⟨lw_p14, List.forall_mem_cons.mpr ⟨lw_p15, fun _ h => absurd h List.not_mem_nil⟩⟩⟩⟩⟩⟩⟩⟩⟩⟩⟩⟩⟩⟩⟩⟩
theorem lw_p16 : lw_okq (⟨"ClassifySortModel", "isClass", "(I)Z"⟩, 23) := ⟨⟨by decide +kernel, by decide +kernel⟩, List.mem_of_getElem? (i := 441) (by decide +kernel), List.mem_of_getElem? (i := 557) (by decide +kernel), List.mem_of_getElem? (i := 558) (by decide +kernel)⟩
theorem lw_p17 : lw_okq (⟨"ClassifySortModel", "forget", "(II)V"⟩, 23) := ⟨⟨by decide +kernel, by decide +kernel⟩, List.mem_of_getElem? (i := 441) (by decide +kernel), List.mem_of_getElem? (i := 561) (by decide +kernel), List.mem_of_getElem? (i := 562) (by decide +kernel)⟩
theorem lw_p18 : lw_okq (⟨"ClassifySortModel", "isTouched", "(II)Z"⟩, 23) := ⟨⟨by decide +kernel, by decide +kernel⟩, List.mem_of_getElem? (i := 441) (by decide +kernel), List.mem_of_getElem? (i := 565) (by decide +kernel), List.mem_of_getElem? (i := 566) (by decide +kernel)⟩
theorem lw_p19 : lw_okq (⟨"ClassifySortModel", "openPairs", "()I"⟩, 23) := ⟨⟨by decide +kernel, by decide +kernel⟩, List.mem_of_getElem? (i := 441) (by decide +kernel), List.mem_of_getElem? (i := 577) (by decide +kernel), List.mem_of_getElem? (i := 578) (by decide +kernel)⟩
theorem lw_p20 : lw_okq (⟨"ClassifySortModel", "goalOf", "(I)I"⟩, 23) := ⟨⟨by decide +kernel, by decide +kernel⟩, List.mem_of_getElem? (i := 441) (by decide +kernel), List.mem_of_getElem? (i := 585) (by decide +kernel), List.mem_of_getElem? (i := 586) (by decide +kernel)⟩
theorem lw_p21 : lw_okq (⟨"ClassifySortModel", "reasonAlone", "(II)I"⟩, 23) := ⟨⟨by decide +kernel, by decide +kernel⟩, List.mem_of_getElem? (i := 441) (by decide +kernel), List.mem_of_getElem? (i := 593) (by decide +kernel), List.mem_of_getElem? (i := 594) (by decide +kernel)⟩
theorem lw_p22 : lw_okq (⟨"ClassifySortModel", "reason", "(I)I"⟩, 23) := ⟨⟨by decide +kernel, by decide +kernel⟩, List.mem_of_getElem? (i := 441) (by decide +kernel), List.mem_of_getElem? (i := 597) (by decide +kernel), List.mem_of_getElem? (i := 598) (by decide +kernel)⟩
theorem lw_p23 : lw_okq (⟨"ClassifySortModel", "look", "(II)Z"⟩, 23) := ⟨⟨by decide +kernel, by decide +kernel⟩, List.mem_of_getElem? (i := 441) (by decide +kernel), List.mem_of_getElem? (i := 605) (by decide +kernel), List.mem_of_getElem? (i := 606) (by decide +kernel)⟩
theorem lw_p24 : lw_okq (⟨"ClassifySortModel", "go", "(IZ)V"⟩, 23) := ⟨⟨by decide +kernel, by decide +kernel⟩, List.mem_of_getElem? (i := 441) (by decide +kernel), List.mem_of_getElem? (i := 609) (by decide +kernel), List.mem_of_getElem? (i := 610) (by decide +kernel)⟩
theorem lw_p25 : lw_okq (⟨"ClassifySortModel", "nextFor", "(IZ)I"⟩, 23) := ⟨⟨by decide +kernel, by decide +kernel⟩, List.mem_of_getElem? (i := 441) (by decide +kernel), List.mem_of_getElem? (i := 613) (by decide +kernel), List.mem_of_getElem? (i := 614) (by decide +kernel)⟩
theorem lw_p26 : lw_okq (⟨"ClassifySortModel", "isDirect", "(II)Z"⟩, 23) := ⟨⟨by decide +kernel, by decide +kernel⟩, List.mem_of_getElem? (i := 441) (by decide +kernel), List.mem_of_getElem? (i := 617) (by decide +kernel), List.mem_of_getElem? (i := 618) (by decide +kernel)⟩
theorem lw_p27 : lw_okq (⟨"ClassifySortModel", "isUnder", "(II)Z"⟩, 23) := ⟨⟨by decide +kernel, by decide +kernel⟩, List.mem_of_getElem? (i := 441) (by decide +kernel), List.mem_of_getElem? (i := 621) (by decide +kernel), List.mem_of_getElem? (i := 622) (by decide +kernel)⟩
theorem lw_p28 : lw_okq (⟨"ClassifySortModel", "isSecond", "(I)Z"⟩, 23) := ⟨⟨by decide +kernel, by decide +kernel⟩, List.mem_of_getElem? (i := 441) (by decide +kernel), List.mem_of_getElem? (i := 629) (by decide +kernel), List.mem_of_getElem? (i := 630) (by decide +kernel)⟩
theorem lw_p29 : lw_okq (⟨"ClassifySortModel", "hasBelow", "(I)Z"⟩, 23) := ⟨⟨by decide +kernel, by decide +kernel⟩, List.mem_of_getElem? (i := 441) (by decide +kernel), List.mem_of_getElem? (i := 633) (by decide +kernel), List.mem_of_getElem? (i := 634) (by decide +kernel)⟩
theorem lw_p30 : lw_okq (⟨"ClassifySortModel", "reasonThing", "(II)I"⟩, 23) := ⟨⟨by decide +kernel, by decide +kernel⟩, List.mem_of_getElem? (i := 441) (by decide +kernel), List.mem_of_getElem? (i := 661) (by decide +kernel), List.mem_of_getElem? (i := 662) (by decide +kernel)⟩
theorem lw_p31 : lw_okq (⟨"ClassifySortModel", "isIn", "(II)Z"⟩, 23) := ⟨⟨by decide +kernel, by decide +kernel⟩, List.mem_of_getElem? (i := 441) (by decide +kernel), List.mem_of_getElem? (i := 665) (by decide +kernel), List.mem_of_getElem? (i := 666) (by decide +kernel)⟩
def lw_privs_2 : List (MethodName × Nat) := [(⟨"ClassifySortModel", "isClass", "(I)Z"⟩, 23), (⟨"ClassifySortModel", "forget", "(II)V"⟩, 23), (⟨"ClassifySortModel", "isTouched", "(II)Z"⟩, 23), (⟨"ClassifySortModel", "openPairs", "()I"⟩, 23), (⟨"ClassifySortModel", "goalOf", "(I)I"⟩, 23), (⟨"ClassifySortModel", "reasonAlone", "(II)I"⟩, 23), (⟨"ClassifySortModel", "reason", "(I)I"⟩, 23), (⟨"ClassifySortModel", "look", "(II)Z"⟩, 23), (⟨"ClassifySortModel", "go", "(IZ)V"⟩, 23), (⟨"ClassifySortModel", "nextFor", "(IZ)I"⟩, 23), (⟨"ClassifySortModel", "isDirect", "(II)Z"⟩, 23), (⟨"ClassifySortModel", "isUnder", "(II)Z"⟩, 23), (⟨"ClassifySortModel", "isSecond", "(I)Z"⟩, 23), (⟨"ClassifySortModel", "hasBelow", "(I)Z"⟩, 23), (⟨"ClassifySortModel", "reasonThing", "(II)I"⟩, 23), (⟨"ClassifySortModel", "isIn", "(II)Z"⟩, 23)]
theorem lw_r2 : ∀ q ∈ lw_privs_2, lw_okq q := List.forall_mem_cons.mpr ⟨lw_p16, List.forall_mem_cons.mpr ⟨lw_p17, List.forall_mem_cons.mpr ⟨lw_p18, List.forall_mem_cons.mpr ⟨lw_p19, List.forall_mem_cons.mpr ⟨lw_p20, List.forall_mem_cons.mpr ⟨lw_p21, List.forall_mem_cons.mpr ⟨lw_p22, List.forall_mem_cons.mpr ⟨lw_p23, List.forall_mem_cons.mpr ⟨lw_p24, List.forall_mem_cons.mpr ⟨lw_p25, List.forall_mem_cons.mpr ⟨lw_p26, List.forall_mem_cons.mpr ⟨lw_p27, List.forall_mem_cons.mpr ⟨lw_p28, List.forall_mem_cons.mpr ⟨lw_p29, List.forall_mem_cons.mpr ⟨lw_p30, List.forall_mem_cons.mpr ⟨lw_p31, fun _ h => absurd h List.not_mem_nil⟩⟩⟩⟩⟩⟩⟩⟩⟩⟩⟩⟩⟩⟩⟩⟩
def lw_privs : List (MethodName × Nat) := lw_privs_1 ++ (lw_privs_2)
def lw_tbl : List Cond := k2_sels lw_privs ++ tables_1
theorem lw_privs_ok : ∀ q ∈ lw_privs, lw_okq q := by
  show ∀ q ∈ lw_privs_1 ++ (lw_privs_2), lw_okq q
  exact List.forall_mem_append.mpr ⟨lw_r1, lw_r2⟩
end
section
/-! J: a method's frame over a world of fixed cells. A reference is the cell's place in the world; 'ad' gives its address. -/
abbrev jE : Type := (Nat × Nat × (Nat → Int32)) ⊕ (Nat × List Value)
abbrev jW : Type := List jE
def jv (ad : Nat → Nat) : Value → Value
  | .ref k => .ref (ad k)
  | v => v
def je (cA : Nat → ClassId) (ad : Nat → Nat) : jE → va_E
  | .inl (t, n, f) => .inl (cA t, n, .inl f)
  | .inr (ci, fs) => .inr (ci, fs.map (jv ad))
def jwA (cA : Nat → ClassId) (ad : Nat → Nat) : Nat → jW → va_W
  | _, [] => []
  | j, e :: t => (ad j, je cA ad e) :: jwA cA ad (j + 1) t
def jw (cA : Nat → ClassId) (ad : Nat → Nat) (ws : jW) : va_W := jwA cA ad 0 ws
theorem jwA_at {cA : Nat → ClassId} {ad : Nat → Nat} {e : jE} : ∀ {ws : jW} {k : Nat} (j : Nat), ws[k]? = some e → (jwA cA ad j ws)[k]? = some (ad (j + k), je cA ad e) := by
  intro ws
  induction ws with
  | nil => intro k j h; simp at h
  | cons x t ih =>
    intro k j h
    cases k with
    | zero =>
      simp only [List.getElem?_cons_zero, Option.some.injEq] at h
      subst h
      rfl
    | succ k =>
      rw [List.getElem?_cons_succ] at h
      have := ih (j + 1) h
      simp only [jwA, List.getElem?_cons_succ]
      rw [this]
      congr 3
      omega
theorem jw_at {cA : Nat → ClassId} {ad : Nat → Nat} {ws : jW} {k : Nat} {e : jE} (h : ws[k]? = some e) : (jw cA ad ws)[k]? = some (ad k, je cA ad e) := by
  have := jwA_at (cA := cA) (ad := ad) 0 h
  rwa [Nat.zero_add] at this
theorem jwA_len {cA : Nat → ClassId} {ad : Nat → Nat} : ∀ {ws : jW} (j : Nat), (jwA cA ad j ws).length = ws.length := by
  intro ws
  induction ws with
  | nil => intro j; rfl
  | cons x t ih => intro j; simp only [jwA, List.length_cons, ih]
theorem jw_len {cA : Nat → ClassId} {ad : Nat → Nat} {ws : jW} : (jw cA ad ws).length = ws.length := jwA_len 0
theorem jwA_set {cA : Nat → ClassId} {ad : Nat → Nat} {e : jE} : ∀ {ws : jW} {k : Nat} (j : Nat), (jwA cA ad j ws).set k (ad (j + k), je cA ad e) = jwA cA ad j (ws.set k e) := by
  intro ws
  induction ws with
  | nil => intro k j; rfl
  | cons x t ih =>
    intro k j
    cases k with
    | zero => rfl
    | succ k =>
      simp only [jwA, List.set_cons_succ]
      rw [← ih (j + 1), show j + (k + 1) = j + 1 + k by omega]
theorem jw_set {cA : Nat → ClassId} {ad : Nat → Nat} {ws : jW} {k : Nat} {e : jE} : (jw cA ad ws).set k (ad k, je cA ad e) = jw cA ad (ws.set k e) := by
  have := jwA_set (cA := cA) (ad := ad) (e := e) (ws := ws) (k := k) 0
  rwa [Nat.zero_add] at this
def jT (cA : Nat → ClassId) : List (ClassId × FieldType) := [(cA 0, .int), (cA 1, .boolean)]
def jA (ad : Nat → Nat) (n : Nat) : Nat → Prop := fun q => ∃ k, k < n ∧ q = ad k
/-- the locals: none is not known; only values of one slot are told -/
def jl (ad : Nat → Nat) : Nat → List (Option Value) → List (Nat × Value)
  | _, [] => []
  | i, none :: t => jl ad (i + 1) t
  | i, some v :: t => if v.category = 1 then (i, jv ad v) :: jl ad (i + 1) t else jl ad (i + 1) t
theorem jv_cat (ad : Nat → Nat) (v : Value) : (jv ad v).category = v.category := by cases v <;> rfl
theorem jl_mem {ad : Nat → Nat} {q : Nat × Value} : ∀ {ls : List (Option Value)} {j : Nat}, q ∈ jl ad j ls ↔ ∃ (k : Nat) (v : Value), ls[k]? = some (some v) ∧ v.category = 1 ∧ q = (j + k, jv ad v) := by
  intro ls
  induction ls with
  | nil => intro j; simp [jl]
  | cons x t ih =>
    intro j
    have key : (∃ (k : Nat) (v : Value), t[k]? = some (some v) ∧ v.category = 1 ∧ q = (j + 1 + k, jv ad v)) ↔ (∃ (k : Nat) (v : Value), (x :: t)[k + 1]? = some (some v) ∧ v.category = 1 ∧ q = (j + (k + 1), jv ad v)) := by
      constructor
      · rintro ⟨k, v, h1, h2, h3⟩; exact ⟨k, v, by simpa using h1, h2, by rw [h3]; congr 1; omega⟩
      · rintro ⟨k, v, h1, h2, h3⟩; exact ⟨k, v, by simpa using h1, h2, by rw [h3]; congr 1; omega⟩
    cases x with
    | none =>
      simp only [jl]
      rw [ih, key]
      constructor
      · rintro ⟨k, v, h⟩; exact ⟨k + 1, v, h⟩
      · rintro ⟨k, v, h1, h⟩
        cases k with
        | zero => simp at h1
        | succ k => exact ⟨k, v, h1, h⟩
    | some v0 =>
      by_cases hc : v0.category = 1
      · simp only [jl, hc, if_true, List.mem_cons]
        rw [ih, key]
        constructor
        · rintro (h | ⟨k, v, h⟩)
          · exact ⟨0, v0, by simp, hc, h⟩
          · exact ⟨k + 1, v, h⟩
        · rintro ⟨k, v, h1, h2, h3⟩
          cases k with
          | zero => simp at h1; subst h1; exact Or.inl h3
          | succ k => exact Or.inr ⟨k, v, h1, h2, h3⟩
      · simp only [jl, hc, if_false]
        rw [ih, key]
        constructor
        · rintro ⟨k, v, h⟩; exact ⟨k + 1, v, h⟩
        · rintro ⟨k, v, h1, h2, h⟩
          cases k with
          | zero => simp at h1; subst h1; exact absurd h2 hc
          | succ k => exact ⟨k, v, h1, h2, h⟩
theorem jl_at {ad : Nat → Nat} {lsA : Array Slot} {nL i : Nat} {ls : List (Option Value)} {v : Value} (hl : lv_has lsA nL (jl ad 0 ls)) (h : ls[i]? = some (some v)) (hc : v.category = 1) : lsA[i]? = some (.val (jv ad v)) :=
  hl.2.2 (i, jv ad v) (jl_mem.mpr ⟨i, v, h, hc, by simp⟩)
theorem jl_store {ad : Nat → Nat} {lsA : Array Slot} {nL i : Nat} {ls : List (Option Value)} {v : Value} (hl : lv_has lsA nL ((i, jv ad v) :: (jl ad 0 ls).filter (fun q => !(q.1 == i) && !(q.1 + 1 == i && q.2.category == 2)))) : lv_has lsA nL (jl ad 0 (ls.set i (some v))) := by
  refine ⟨hl.1, hl.2.1, fun q hq => hl.2.2 q ?_⟩
  obtain ⟨k, u, h1, h2, h3⟩ := jl_mem.mp hq
  rw [List.getElem?_set] at h1
  by_cases hk : i = k
  · subst hk
    rw [if_pos rfl] at h1
    split at h1
    · simp only [Option.some.injEq] at h1
      subst h1
      simp [h3]
    · simp at h1
  · rw [if_neg hk] at h1
    refine List.mem_cons_of_mem _ (List.mem_filter.mpr ⟨jl_mem.mpr ⟨k, u, h1, h2, h3⟩, ?_⟩)
    have hk' : ¬ k = i := fun h => hk h.symm
    rw [h3]
    simp [jv_cat, h2, hk']
def jQ (cl : List vw_C) (cA : Nat → ClassId) (D : va_G) (ad : Nat → Nat) (A : Nat → Prop) (n : Nat) (Q : Option Value → jW → Prop) : Array Value → State → Outcome → State → Prop :=
  fun _ st oc t => (∃ (r : Option Value) (w : jW), oc = .returned (r.map (jv ad)) ∧ Q r w ∧ w.length = n ∧ va_P D cl (jw cA ad w) t.heap ∧ va_K D cl (jT cA) t ∧ va_D A (jw cA ad w)) ∧ va_F A st t
/-- what stands around a frame of ours -/
abbrev jNt : Type := List (String × Nat × MethodName × String)
def jN (Ns : jNt) (U : State) : Prop := ∀ q ∈ Ns, va_Nw (.methodLinkNest q.1 q.2.1 q.2.2.1 q.2.2.2) U
theorem jN_warm {Ns : jNt} {s U : State} (hW : s.WarmedH U.vm) (h : jN Ns s) : jN Ns U := fun q hq => va_Nw.warmM hW (h q hq)
def jC (cl : List vw_C) (Ns : jNt) (Ts : List Cond) (own : String) (cc : ByteArray) (nL : Nat) (ret : Option FieldType) (ls : List (Option Value)) (ws : jW) (p : Program) (s : State) (m : MethodId) (args : Array Value) (meth : Method) (c : Code) (H : Heap) (locs : List Loc) (D : va_G) (cA : Nat → ClassId) (ad : Nat → Nat) (A : Nat → Prop) (lsA : Array Slot) : Prop :=
  p.tables.exec = Jvm.exec ∧ c.code = cc ∧ meth.sig.returnType = ret ∧ c.maxLocals = nL ∧ meth.locks = false ∧ s.vm.findClass own = some m.cls ∧ (∀ w ∈ Ts, w.before args s = true) ∧ jN Ns s ∧ va_K D cl (jT cA) s ∧ va_P D cl (jw cA ad ws) H ∧ va_D A (jw cA ad ws) ∧ va_S A s.heap H locs ∧ lv_has lsA nL (jl ad 0 ls)
/-- from pc, with these locals, this stack, this world: the method returns, and Q of what it answers and of the world then -/
def JW (l : Launch) (cl : List vw_C) (Ns : jNt) (Ts : List Cond) (own : String) (cc : ByteArray) (nL : Nat) (ret : Option FieldType) (R : Room) (pc : Nat) (ls : List (Option Value)) (st : List Value) (ws : jW) (Q : Option Value → jW → Prop) : Prop :=
  ∀ (p : Program) (e : Env) (s : State) (m : MethodId) (args : Array Value) (below : List Frame) (meth : Method) (c : Code) (H : Heap) (locs : List Loc) (D : va_G) (cA : Nat → ClassId) (ad : Nat → Nat) (A : Nat → Prop) (lsA : Array Slot),
    jC cl Ns Ts own cc nL ret ls ws p s m args meth c H locs D cA ad A lsA → W p l e R s m args below meth c H locs 0 0 (MQ below (jQ cl cA D ad A ws.length Q) args s 0 0 A) (F0 m pc lsA (st.map (jv ad)))
def JMet (l : Launch) (cl : List vw_C) (Ns : jNt) (Tw : List Cond) (y : MethodName) (R : Room) (av : List Value) (ws : jW) (Q : Option Value → jW → Prop) : Prop :=
  ∀ (D : va_G) (cA : Nat → ClassId) (ad : Nat → Nat), Met l y Tw R (va_Pc (av.map (jv ad)) (fun U => jN Ns U ∧ va_P D cl (jw cA ad ws) U.heap ∧ va_K D cl (jT cA) U ∧ va_D (jA ad ws.length) (jw cA ad ws))) (jQ cl cA D ad (jA ad ws.length) ws.length Q) 0 0 (jA ad ws.length)
theorem jl_entry {ad : Nat → Nat} {q : Nat × Value} : ∀ (av : List Value) (i k : Nat), (∀ v ∈ av, v.category = 1) → q ∈ jl ad i (av.map some ++ List.replicate k none) → q ∈ lv_args i (av.map (jv ad)) := by
  intro av
  induction av with
  | nil =>
    intro i k _ hq
    obtain ⟨j, v, h1, -⟩ := jl_mem.mp hq
    simp only [List.map_nil, List.nil_append, List.getElem?_replicate] at h1
    split at h1 <;> simp at h1
  | cons v t ih =>
    intro i k hc hq
    have hv : v.category = 1 := hc v List.mem_cons_self
    simp only [List.map_cons, List.cons_append, jl, hv, if_true, lv_args] at hq ⊢
    rw [show (if (jv ad v).category = 2 then i + 2 else i + 1) = i + 1 by rw [jv_cat, hv]; rfl]
    rcases List.mem_cons.mp hq with h | h
    · exact List.mem_cons.mpr (Or.inl h)
    · exact List.mem_cons_of_mem _ (ih (i + 1) k (fun u hu => hc u (List.mem_cons_of_mem _ hu)) h)
theorem j_sl (ad : Nat → Nat) : ∀ (av : List Value), (∀ v ∈ av, v.category = 1) → (lg_sl (av.map (jv ad))).length = av.length := by
  intro av
  induction av with
  | nil => intro _; rfl
  | cons v t ih =>
    intro hc
    have hv : v.category = 1 := hc v List.mem_cons_self
    have := ih (fun u hu => hc u (List.mem_cons_of_mem _ hu))
    simp only [lg_sl, List.map_cons, List.flatMap_cons, List.length_append, List.length_cons] at this ⊢
    rw [this, jv_cat, hv]
    simp
    omega
theorem J_enter {l : Launch} {cl : List vw_C} {Ns : jNt} {Ts : List Cond} {y : MethodName} {cc : ByteArray} {nL : Nat} {ret : Option FieldType} {R : Room} {av : List Value} {ws : jW} {Q : Option Value → jW → Prop} (hy : plainName y.cls = true) (hc0 : av.all (fun v => v.category == 1) = true) (hn : av.length ≤ nL)
    (k : JW l cl Ns Ts y.cls cc nL ret R 0 (av.map some ++ List.replicate (nL - av.length) none) [] ws Q) : JMet l cl Ns (.code y cc nL ret :: Ts) y R av ws Q := by
  have hc : ∀ v ∈ av, v.category = 1 := fun v hv => by simpa using List.all_eq_true.mp hc0 v hv
  intro D cA ad
  refine Met.ofW (cc := cc) (maxL := nL) (ret := ret) hy rfl ?_
  intro p e s m args below meth c s₁ B hml hv
  obtain ⟨rfl, hN, hP, hK, hD⟩ := hv
  have hts := atoms_spec (ws := .code y cc nL ret :: Ts) B.pre
  have hown : s.vm.findClass y.cls = some m.cls := findClass_of_methodNamed B.named
  have hl := lv_entry (av.map (jv ad)) (n := nL) (by rw [j_sl ad av hc]; exact hn)
  rw [lg_entry_eq]
  exact k p e s m _ below meth c s.heap [] D cA ad (jA ad ws.length) _ ⟨B.exec, B.bytes, B.returns, hml, B.notSynchronized, hown, fun w hw => hts w (List.mem_cons_of_mem _ hw), hN, hK, hP, hD, va_S.rf, ⟨hl.1, hl.2.1, fun q hq => hl.2.2 q (jl_entry av 0 _ hc hq)⟩⟩
section JR
variable {l : Launch} {cl : List vw_C} {Ns : jNt} {Ts : List Cond} {own : String} {cc : ByteArray} {nL : Nat} {ret : Option FieldType} {R : Room} {pc : Nat} {ls : List (Option Value)} {st : List Value} {ws : jW} {Q : Option Value → jW → Prop}
/-- the same frame, written otherwise -/
theorem J_eq {pc' : Nat} {ls' : List (Option Value)} {st' : List Value} {ws' : jW} (h1 : pc = pc') (h2 : ls = ls') (h3 : st = st') (h4 : ws = ws') (k : JW l cl Ns Ts own cc nL ret R pc' ls' st' ws' Q) : JW l cl Ns Ts own cc nL ret R pc ls st ws Q := by
  subst h1; subst h2; subst h3; subst h4; exact k
/-- fewer known locals -/
theorem J_forget {ls' : List (Option Value)} (h : ∀ (k : Nat) (v : Value), ls'[k]? = some (some v) → ls[k]? = some (some v)) (k : JW l cl Ns Ts own cc nL ret R pc ls' st ws Q) : JW l cl Ns Ts own cc nL ret R pc ls st ws Q := by
  intro p e s m args below meth c H locs D cA ad A lsA ⟨hx, hb, hr, hml, hlk, hown, hts, hN, hK, hP, hD, hS, hl⟩
  refine k p e s m args below meth c H locs D cA ad A lsA ⟨hx, hb, hr, hml, hlk, hown, hts, hN, hK, hP, hD, hS, hl.1, hl.2.1, fun q hq => hl.2.2 q ?_⟩
  obtain ⟨k, v, h1, h2⟩ := jl_mem.mp hq
  exact jl_mem.mpr ⟨k, v, h k v h1, h2⟩
theorem J_post {Q' : Option Value → jW → Prop} (h : ∀ r w, Q' r w → Q r w) (k : JW l cl Ns Ts own cc nL ret R pc ls st ws Q') : JW l cl Ns Ts own cc nL ret R pc ls st ws Q := by
  intro p e s m args below meth c H locs D cA ad A lsA X T hT Y
  obtain ⟨t, a, o, b1, b2, ⟨⟨r, w, c1, c2, c3⟩, c4⟩, b4⟩ := k p e s m args below meth c H locs D cA ad A lsA X T hT Y
  exact ⟨t, a, o, b1, b2, ⟨⟨r, w, c1, h r w c2, c3⟩, c4⟩, b4⟩
theorem J_iconst {n : Int} {v : Int32} (hd : decode cc pc = .ok (.iconst n, 1)) (hv : Int32.ofInt n = v) (k : JW l cl Ns Ts own cc nL ret R (pc + 1) ls (.int v :: st) ws Q) : JW l cl Ns Ts own cc nL ret R pc ls st ws Q := by
  intro p e s m args below meth c H locs D cA ad A lsA X
  obtain ⟨hx, hb, hr, hml, hlk, hown, hts, hN, hK, hP, hD, hS, hl⟩ := id X
  exact lv_iconst hx hb hd hv (k p e s m args below meth c H locs D cA ad A lsA X)
theorem J_bipush {n : Int} {v : Int32} (hd : decode cc pc = .ok (.bipush n, 2)) (hv : (Int8.ofInt n).toInt32 = v) (k : JW l cl Ns Ts own cc nL ret R (pc + 2) ls (.int v :: st) ws Q) : JW l cl Ns Ts own cc nL ret R pc ls st ws Q := by
  intro p e s m args below meth c H locs D cA ad A lsA X
  obtain ⟨hx, hb, hr, hml, hlk, hown, hts, hN, hK, hP, hD, hS, hl⟩ := id X
  exact lv_bipush hx hb hd hv (k p e s m args below meth c H locs D cA ad A lsA X)
theorem J_sipush {n : Int} {v : Int32} (hd : decode cc pc = .ok (.sipush n, 3)) (hv : (Int16.ofInt n).toInt32 = v) (k : JW l cl Ns Ts own cc nL ret R (pc + 3) ls (.int v :: st) ws Q) : JW l cl Ns Ts own cc nL ret R pc ls st ws Q := by
  intro p e s m args below meth c H locs D cA ad A lsA X
  obtain ⟨hx, hb, hr, hml, hlk, hown, hts, hN, hK, hP, hD, hS, hl⟩ := id X
  exact lv_sipush hx hb hd hv (k p e s m args below meth c H locs D cA ad A lsA X)
theorem J_ldc {index : Nat} {v : Int32} (hd : decode cc pc = .ok (.ldc index, 2)) (hc : Cond.constant own index v ∈ Ts) (k : JW l cl Ns Ts own cc nL ret R (pc + 2) ls (.int v :: st) ws Q) : JW l cl Ns Ts own cc nL ret R pc ls st ws Q := by
  intro p e s m args below meth c H locs D cA ad A lsA X
  obtain ⟨hx, hb, hr, hml, hlk, hown, hts, hN, hK, hP, hD, hS, hl⟩ := id X
  exact lv_ldc hx hb hown (hts _ hc) hd (k p e s m args below meth c H locs D cA ad A lsA X)
theorem J_ldcw {index : Nat} {v : Int32} (hd : decode cc pc = .ok (.ldc_w index, 3)) (hc : Cond.constant own index v ∈ Ts) (k : JW l cl Ns Ts own cc nL ret R (pc + 3) ls (.int v :: st) ws Q) : JW l cl Ns Ts own cc nL ret R pc ls st ws Q := by
  intro p e s m args below meth c H locs D cA ad A lsA X
  obtain ⟨hx, hb, hr, hml, hlk, hown, hts, hN, hK, hP, hD, hS, hl⟩ := id X
  exact lv_ldcw hx hb hown (hts _ hc) hd (k p e s m args below meth c H locs D cA ad A lsA X)
theorem J_iload_n {i : Fin 4} {x : Int32} (hd : decode cc pc = .ok (.iload_n i, 1)) (h : ls[(i : Nat)]? = some (some (.int x))) (k : JW l cl Ns Ts own cc nL ret R (pc + 1) ls (.int x :: st) ws Q) : JW l cl Ns Ts own cc nL ret R pc ls st ws Q := by
  intro p e s m args below meth c H locs D cA ad A lsA X
  obtain ⟨hx, hb, hr, hml, hlk, hown, hts, hN, hK, hP, hD, hS, hl⟩ := id X
  exact lv_iload_n hx hb hd rfl (jl_at hl h rfl) (k p e s m args below meth c H locs D cA ad A lsA X)
theorem J_iload {i : Nat} {x : Int32} (hd : decode cc pc = .ok (.iload i, 2)) (h : ls[i]? = some (some (.int x))) (k : JW l cl Ns Ts own cc nL ret R (pc + 2) ls (.int x :: st) ws Q) : JW l cl Ns Ts own cc nL ret R pc ls st ws Q := by
  intro p e s m args below meth c H locs D cA ad A lsA X
  obtain ⟨hx, hb, hr, hml, hlk, hown, hts, hN, hK, hP, hD, hS, hl⟩ := id X
  exact lv_iload hx hb hd (jl_at hl h rfl) (k p e s m args below meth c H locs D cA ad A lsA X)
theorem J_aload_n {i : Fin 4} {x : Nat} (hd : decode cc pc = .ok (.aload_n i, 1)) (h : ls[(i : Nat)]? = some (some (.ref x))) (k : JW l cl Ns Ts own cc nL ret R (pc + 1) ls (.ref x :: st) ws Q) : JW l cl Ns Ts own cc nL ret R pc ls st ws Q := by
  intro p e s m args below meth c H locs D cA ad A lsA X
  obtain ⟨hx, hb, hr, hml, hlk, hown, hts, hN, hK, hP, hD, hS, hl⟩ := id X
  exact lv_aload_n hx hb hd rfl (jl_at hl h rfl) (k p e s m args below meth c H locs D cA ad A lsA X)
theorem J_aload {i : Nat} {x : Nat} (hd : decode cc pc = .ok (.aload i, 2)) (h : ls[i]? = some (some (.ref x))) (k : JW l cl Ns Ts own cc nL ret R (pc + 2) ls (.ref x :: st) ws Q) : JW l cl Ns Ts own cc nL ret R pc ls st ws Q := by
  intro p e s m args below meth c H locs D cA ad A lsA X
  obtain ⟨hx, hb, hr, hml, hlk, hown, hts, hN, hK, hP, hD, hS, hl⟩ := id X
  exact lv_aload hx hb hd (jl_at hl h rfl) (k p e s m args below meth c H locs D cA ad A lsA X)
theorem J_istore_n {i : Fin 4} {x : Int32} (hd : decode cc pc = .ok (.istore_n i, 1)) (hn : (i : Nat) < nL) (k : JW l cl Ns Ts own cc nL ret R (pc + 1) (ls.set (i : Nat) (some (.int x))) st ws Q) : JW l cl Ns Ts own cc nL ret R pc ls (.int x :: st) ws Q := by
  intro p e s m args below meth c H locs D cA ad A lsA X
  obtain ⟨hx, hb, hr, hml, hlk, hown, hts, hN, hK, hP, hD, hS, hl⟩ := id X
  exact lv_istore_n hx hb hd rfl hl hn rfl (fun ls' hl' => k p e s m args below meth c H locs D cA ad A ls' ⟨hx, hb, hr, hml, hlk, hown, hts, hN, hK, hP, hD, hS, jl_store (v := .int x) hl'⟩)
theorem J_istore {i : Nat} {x : Int32} (hd : decode cc pc = .ok (.istore i, 2)) (hn : i < nL) (k : JW l cl Ns Ts own cc nL ret R (pc + 2) (ls.set i (some (.int x))) st ws Q) : JW l cl Ns Ts own cc nL ret R pc ls (.int x :: st) ws Q := by
  intro p e s m args below meth c H locs D cA ad A lsA X
  obtain ⟨hx, hb, hr, hml, hlk, hown, hts, hN, hK, hP, hD, hS, hl⟩ := id X
  exact lv_istore hx hb hd hl hn rfl (fun ls' hl' => k p e s m args below meth c H locs D cA ad A ls' ⟨hx, hb, hr, hml, hlk, hown, hts, hN, hK, hP, hD, hS, jl_store (v := .int x) hl'⟩)
theorem J_astore_n {i : Fin 4} {x : Nat} (hd : decode cc pc = .ok (.astore_n i, 1)) (hn : (i : Nat) < nL) (k : JW l cl Ns Ts own cc nL ret R (pc + 1) (ls.set (i : Nat) (some (.ref x))) st ws Q) : JW l cl Ns Ts own cc nL ret R pc ls (.ref x :: st) ws Q := by
  intro p e s m args below meth c H locs D cA ad A lsA X
  obtain ⟨hx, hb, hr, hml, hlk, hown, hts, hN, hK, hP, hD, hS, hl⟩ := id X
  exact lv_astore_n hx hb hd rfl hl hn rfl (fun ls' hl' => k p e s m args below meth c H locs D cA ad A ls' ⟨hx, hb, hr, hml, hlk, hown, hts, hN, hK, hP, hD, hS, jl_store (v := .ref x) hl'⟩)
theorem J_astore {i : Nat} {x : Nat} (hd : decode cc pc = .ok (.astore i, 2)) (hn : i < nL) (k : JW l cl Ns Ts own cc nL ret R (pc + 2) (ls.set i (some (.ref x))) st ws Q) : JW l cl Ns Ts own cc nL ret R pc ls (.ref x :: st) ws Q := by
  intro p e s m args below meth c H locs D cA ad A lsA X
  obtain ⟨hx, hb, hr, hml, hlk, hown, hts, hN, hK, hP, hD, hS, hl⟩ := id X
  exact lv_astore hx hb hd hl hn rfl (fun ls' hl' => k p e s m args below meth c H locs D cA ad A ls' ⟨hx, hb, hr, hml, hlk, hown, hts, hN, hK, hP, hD, hS, jl_store (v := .ref x) hl'⟩)
theorem J_iinc {i : Nat} {n : Int} {x v : Int32} (hd : decode cc pc = .ok (.iinc i n, 3)) (h : ls[i]? = some (some (.int x))) (hv : x + Int32.ofInt n = v) (hn : i < nL) (k : JW l cl Ns Ts own cc nL ret R (pc + 3) (ls.set i (some (.int v))) st ws Q) : JW l cl Ns Ts own cc nL ret R pc ls st ws Q := by
  intro p e s m args below meth c H locs D cA ad A lsA X
  obtain ⟨hx, hb, hr, hml, hlk, hown, hts, hN, hK, hP, hD, hS, hl⟩ := id X
  obtain ⟨j, hj⟩ := List.getElem?_of_mem (jl_mem.mpr ⟨i, .int x, h, rfl, rfl⟩ : (0 + i, jv ad (.int x)) ∈ jl ad 0 ls)
  rw [Nat.zero_add] at hj
  exact lv_iinc hx hb hd hl (k := j) hj hv hn rfl (fun ls' hl' => k p e s m args below meth c H locs D cA ad A ls' ⟨hx, hb, hr, hml, hlk, hown, hts, hN, hK, hP, hD, hS, jl_store (v := .int v) hl'⟩)
theorem J_iadd {x y : Int32} (hd : decode cc pc = .ok (.iadd, 1))  (k : JW l cl Ns Ts own cc nL ret R (pc + 1) ls (.int (x + y) :: st) ws Q) : JW l cl Ns Ts own cc nL ret R pc ls (.int y :: .int x :: st) ws Q := by
  intro p e s m args below meth c H locs D cA ad A lsA X
  obtain ⟨hx, hb, hr, hml, hlk, hown, hts, hN, hK, hP, hD, hS, hl⟩ := id X
  exact lv_iadd hx hb hd (k p e s m args below meth c H locs D cA ad A lsA X)
theorem J_isub {x y : Int32} (hd : decode cc pc = .ok (.isub, 1))  (k : JW l cl Ns Ts own cc nL ret R (pc + 1) ls (.int (x - y) :: st) ws Q) : JW l cl Ns Ts own cc nL ret R pc ls (.int y :: .int x :: st) ws Q := by
  intro p e s m args below meth c H locs D cA ad A lsA X
  obtain ⟨hx, hb, hr, hml, hlk, hown, hts, hN, hK, hP, hD, hS, hl⟩ := id X
  exact lv_isub hx hb hd (k p e s m args below meth c H locs D cA ad A lsA X)
theorem J_imul {x y : Int32} (hd : decode cc pc = .ok (.imul, 1))  (k : JW l cl Ns Ts own cc nL ret R (pc + 1) ls (.int (x * y) :: st) ws Q) : JW l cl Ns Ts own cc nL ret R pc ls (.int y :: .int x :: st) ws Q := by
  intro p e s m args below meth c H locs D cA ad A lsA X
  obtain ⟨hx, hb, hr, hml, hlk, hown, hts, hN, hK, hP, hD, hS, hl⟩ := id X
  exact lv_imul hx hb hd (k p e s m args below meth c H locs D cA ad A lsA X)
theorem J_iand {x y : Int32} (hd : decode cc pc = .ok (.iand, 1))  (k : JW l cl Ns Ts own cc nL ret R (pc + 1) ls (.int (x &&& y) :: st) ws Q) : JW l cl Ns Ts own cc nL ret R pc ls (.int y :: .int x :: st) ws Q := by
  intro p e s m args below meth c H locs D cA ad A lsA X
  obtain ⟨hx, hb, hr, hml, hlk, hown, hts, hN, hK, hP, hD, hS, hl⟩ := id X
  exact lv_iand hx hb hd (k p e s m args below meth c H locs D cA ad A lsA X)
theorem J_ior {x y : Int32} (hd : decode cc pc = .ok (.ior, 1))  (k : JW l cl Ns Ts own cc nL ret R (pc + 1) ls (.int (x ||| y) :: st) ws Q) : JW l cl Ns Ts own cc nL ret R pc ls (.int y :: .int x :: st) ws Q := by
  intro p e s m args below meth c H locs D cA ad A lsA X
  obtain ⟨hx, hb, hr, hml, hlk, hown, hts, hN, hK, hP, hD, hS, hl⟩ := id X
  exact lv_ior hx hb hd (k p e s m args below meth c H locs D cA ad A lsA X)
theorem J_ixor {x y : Int32} (hd : decode cc pc = .ok (.ixor, 1))  (k : JW l cl Ns Ts own cc nL ret R (pc + 1) ls (.int (x ^^^ y) :: st) ws Q) : JW l cl Ns Ts own cc nL ret R pc ls (.int y :: .int x :: st) ws Q := by
  intro p e s m args below meth c H locs D cA ad A lsA X
  obtain ⟨hx, hb, hr, hml, hlk, hown, hts, hN, hK, hP, hD, hS, hl⟩ := id X
  exact lv_ixor hx hb hd (k p e s m args below meth c H locs D cA ad A lsA X)
theorem J_ishl {x y : Int32} (hd : decode cc pc = .ok (.ishl, 1))  (k : JW l cl Ns Ts own cc nL ret R (pc + 1) ls (.int (x <<< (y &&& 31)) :: st) ws Q) : JW l cl Ns Ts own cc nL ret R pc ls (.int y :: .int x :: st) ws Q := by
  intro p e s m args below meth c H locs D cA ad A lsA X
  obtain ⟨hx, hb, hr, hml, hlk, hown, hts, hN, hK, hP, hD, hS, hl⟩ := id X
  exact lv_ishl hx hb hd (k p e s m args below meth c H locs D cA ad A lsA X)
theorem J_ishr {x y : Int32} (hd : decode cc pc = .ok (.ishr, 1))  (k : JW l cl Ns Ts own cc nL ret R (pc + 1) ls (.int (x >>> (y &&& 31)) :: st) ws Q) : JW l cl Ns Ts own cc nL ret R pc ls (.int y :: .int x :: st) ws Q := by
  intro p e s m args below meth c H locs D cA ad A lsA X
  obtain ⟨hx, hb, hr, hml, hlk, hown, hts, hN, hK, hP, hD, hS, hl⟩ := id X
  exact lv_ishr hx hb hd (k p e s m args below meth c H locs D cA ad A lsA X)
theorem J_iushr {x y : Int32} (hd : decode cc pc = .ok (.iushr, 1))  (k : JW l cl Ns Ts own cc nL ret R (pc + 1) ls (.int ((x.toUInt32 >>> (y.toUInt32 &&& Int32.toUInt32 31)).toInt32) :: st) ws Q) : JW l cl Ns Ts own cc nL ret R pc ls (.int y :: .int x :: st) ws Q := by
  intro p e s m args below meth c H locs D cA ad A lsA X
  obtain ⟨hx, hb, hr, hml, hlk, hown, hts, hN, hK, hP, hD, hS, hl⟩ := id X
  exact lv_iushr hx hb hd rfl (k p e s m args below meth c H locs D cA ad A lsA X)
theorem J_ineg {x : Int32} (hd : decode cc pc = .ok (.ineg, 1))  (k : JW l cl Ns Ts own cc nL ret R (pc + 1) ls (.int (-x) :: st) ws Q) : JW l cl Ns Ts own cc nL ret R pc ls (.int x :: st) ws Q := by
  intro p e s m args below meth c H locs D cA ad A lsA X
  obtain ⟨hx, hb, hr, hml, hlk, hown, hts, hN, hK, hP, hD, hS, hl⟩ := id X
  exact lv_ineg hx hb hd (k p e s m args below meth c H locs D cA ad A lsA X)
theorem J_idiv {x y : Int32} (hd : decode cc pc = .ok (.idiv, 1)) (hne : ¬ y = 0) (k : JW l cl Ns Ts own cc nL ret R (pc + 1) ls (.int (x / y) :: st) ws Q) : JW l cl Ns Ts own cc nL ret R pc ls (.int y :: .int x :: st) ws Q := by
  intro p e s m args below meth c H locs D cA ad A lsA X
  obtain ⟨hx, hb, hr, hml, hlk, hown, hts, hN, hK, hP, hD, hS, hl⟩ := id X
  exact lv_idiv hx hb hd hne (k p e s m args below meth c H locs D cA ad A lsA X)
theorem J_irem {x y : Int32} (hd : decode cc pc = .ok (.irem, 1)) (hne : ¬ y = 0) (k : JW l cl Ns Ts own cc nL ret R (pc + 1) ls (.int (x - x / y * y) :: st) ws Q) : JW l cl Ns Ts own cc nL ret R pc ls (.int y :: .int x :: st) ws Q := by
  intro p e s m args below meth c H locs D cA ad A lsA X
  obtain ⟨hx, hb, hr, hml, hlk, hown, hts, hN, hK, hP, hD, hS, hl⟩ := id X
  exact lv_irem hx hb hd hne (k p e s m args below meth c H locs D cA ad A lsA X)
theorem J_dup {v : Value} (hd : decode cc pc = .ok (.dup, 1)) (hv : v.category = 1) (k : JW l cl Ns Ts own cc nL ret R (pc + 1) ls (v :: v :: st) ws Q) : JW l cl Ns Ts own cc nL ret R pc ls (v :: st) ws Q := by
  intro p e s m args below meth c H locs D cA ad A lsA X
  obtain ⟨hx, hb, hr, hml, hlk, hown, hts, hN, hK, hP, hD, hS, hl⟩ := id X
  exact lv_dup hx hb hd (by rw [jv_cat]; exact hv) (k p e s m args below meth c H locs D cA ad A lsA X)
theorem J_pop {v : Value} (hd : decode cc pc = .ok (.pop, 1)) (hv : v.category = 1) (k : JW l cl Ns Ts own cc nL ret R (pc + 1) ls st ws Q) : JW l cl Ns Ts own cc nL ret R pc ls (v :: st) ws Q := by
  intro p e s m args below meth c H locs D cA ad A lsA X
  obtain ⟨hx, hb, hr, hml, hlk, hown, hts, hN, hK, hP, hD, hS, hl⟩ := id X
  exact lv_pop hx hb hd (by rw [jv_cat]; exact hv) (k p e s m args below meth c H locs D cA ad A lsA X)
theorem J_dup_x1 {v u : Value} (hd : decode cc pc = .ok (.dup_x1, 1)) (hv : v.category = 1) (hu : u.category = 1) (k : JW l cl Ns Ts own cc nL ret R (pc + 1) ls (v :: u :: v :: st) ws Q) : JW l cl Ns Ts own cc nL ret R pc ls (v :: u :: st) ws Q := by
  intro p e s m args below meth c H locs D cA ad A lsA X
  obtain ⟨hx, hb, hr, hml, hlk, hown, hts, hN, hK, hP, hD, hS, hl⟩ := id X
  exact lv_dup_x1 hx hb hd (by rw [jv_cat]; exact hv) (by rw [jv_cat]; exact hu) (k p e s m args below meth c H locs D cA ad A lsA X)
theorem J_dup_x2 {v u t : Value} (hd : decode cc pc = .ok (.dup_x2, 1)) (hv : v.category = 1) (hu : u.category = 1) (ht : t.category = 1) (k : JW l cl Ns Ts own cc nL ret R (pc + 1) ls (v :: u :: t :: v :: st) ws Q) : JW l cl Ns Ts own cc nL ret R pc ls (v :: u :: t :: st) ws Q := by
  intro p e s m args below meth c H locs D cA ad A lsA X
  obtain ⟨hx, hb, hr, hml, hlk, hown, hts, hN, hK, hP, hD, hS, hl⟩ := id X
  exact lv_dup_x2 hx hb hd (by rw [jv_cat]; exact hv) (by rw [jv_cat]; exact hu) (by rw [jv_cat]; exact ht) (k p e s m args below meth c H locs D cA ad A lsA X)
theorem J_dup2 {v u : Value} (hd : decode cc pc = .ok (.dup2, 1)) (hv : v.category = 1) (hu : u.category = 1) (k : JW l cl Ns Ts own cc nL ret R (pc + 1) ls (v :: u :: v :: u :: st) ws Q) : JW l cl Ns Ts own cc nL ret R pc ls (v :: u :: st) ws Q := by
  intro p e s m args below meth c H locs D cA ad A lsA X
  obtain ⟨hx, hb, hr, hml, hlk, hown, hts, hN, hK, hP, hD, hS, hl⟩ := id X
  exact lv_dup2_11 hx hb hd (by rw [jv_cat]; exact hv) (by rw [jv_cat]; exact hu) (k p e s m args below meth c H locs D cA ad A lsA X)
theorem J_if_eq {x : Int32} {off : Int} {tgt : Nat} (hd : decode cc pc = .ok (.ifCond .eq off, 3)) (ht : (pc : Int) + off = (tgt : Int)) (kt : x = 0 → JW l cl Ns Ts own cc nL ret R tgt ls st ws Q) (kf : ¬ x = 0 → JW l cl Ns Ts own cc nL ret R (pc + 3) ls st ws Q) : JW l cl Ns Ts own cc nL ret R pc ls (.int x :: st) ws Q := by
  intro p e s m args below meth c H locs D cA ad A lsA X
  obtain ⟨hx, hb, hr, hml, hlk, hown, hts, hN, hK, hP, hD, hS, hl⟩ := id X
  exact lv_if_eq hx hb hd ht (fun h => kt h p e s m args below meth c H locs D cA ad A lsA X) (fun h => kf h p e s m args below meth c H locs D cA ad A lsA X)
theorem J_icmp_eq {x y : Int32} {off : Int} {tgt : Nat} (hd : decode cc pc = .ok (.if_icmp .eq off, 3)) (ht : (pc : Int) + off = (tgt : Int)) (kt : x = y → JW l cl Ns Ts own cc nL ret R tgt ls st ws Q) (kf : ¬ x = y → JW l cl Ns Ts own cc nL ret R (pc + 3) ls st ws Q) : JW l cl Ns Ts own cc nL ret R pc ls (.int y :: .int x :: st) ws Q := by
  intro p e s m args below meth c H locs D cA ad A lsA X
  obtain ⟨hx, hb, hr, hml, hlk, hown, hts, hN, hK, hP, hD, hS, hl⟩ := id X
  exact lv_icmp_eq hx hb hd ht (fun h => kt h p e s m args below meth c H locs D cA ad A lsA X) (fun h => kf h p e s m args below meth c H locs D cA ad A lsA X)
theorem J_if_ne {x : Int32} {off : Int} {tgt : Nat} (hd : decode cc pc = .ok (.ifCond .ne off, 3)) (ht : (pc : Int) + off = (tgt : Int)) (kt : ¬ x = 0 → JW l cl Ns Ts own cc nL ret R tgt ls st ws Q) (kf : x = 0 → JW l cl Ns Ts own cc nL ret R (pc + 3) ls st ws Q) : JW l cl Ns Ts own cc nL ret R pc ls (.int x :: st) ws Q := by
  intro p e s m args below meth c H locs D cA ad A lsA X
  obtain ⟨hx, hb, hr, hml, hlk, hown, hts, hN, hK, hP, hD, hS, hl⟩ := id X
  exact lv_if_ne hx hb hd ht (fun h => kt h p e s m args below meth c H locs D cA ad A lsA X) (fun h => kf h p e s m args below meth c H locs D cA ad A lsA X)
theorem J_icmp_ne {x y : Int32} {off : Int} {tgt : Nat} (hd : decode cc pc = .ok (.if_icmp .ne off, 3)) (ht : (pc : Int) + off = (tgt : Int)) (kt : ¬ x = y → JW l cl Ns Ts own cc nL ret R tgt ls st ws Q) (kf : x = y → JW l cl Ns Ts own cc nL ret R (pc + 3) ls st ws Q) : JW l cl Ns Ts own cc nL ret R pc ls (.int y :: .int x :: st) ws Q := by
  intro p e s m args below meth c H locs D cA ad A lsA X
  obtain ⟨hx, hb, hr, hml, hlk, hown, hts, hN, hK, hP, hD, hS, hl⟩ := id X
  exact lv_icmp_ne hx hb hd ht (fun h => kt h p e s m args below meth c H locs D cA ad A lsA X) (fun h => kf h p e s m args below meth c H locs D cA ad A lsA X)
theorem J_if_lt {x : Int32} {off : Int} {tgt : Nat} (hd : decode cc pc = .ok (.ifCond .lt off, 3)) (ht : (pc : Int) + off = (tgt : Int)) (kt : x < 0 → JW l cl Ns Ts own cc nL ret R tgt ls st ws Q) (kf : ¬ x < 0 → JW l cl Ns Ts own cc nL ret R (pc + 3) ls st ws Q) : JW l cl Ns Ts own cc nL ret R pc ls (.int x :: st) ws Q := by
  intro p e s m args below meth c H locs D cA ad A lsA X
  obtain ⟨hx, hb, hr, hml, hlk, hown, hts, hN, hK, hP, hD, hS, hl⟩ := id X
  exact lv_if_lt hx hb hd ht (fun h => kt h p e s m args below meth c H locs D cA ad A lsA X) (fun h => kf h p e s m args below meth c H locs D cA ad A lsA X)
theorem J_icmp_lt {x y : Int32} {off : Int} {tgt : Nat} (hd : decode cc pc = .ok (.if_icmp .lt off, 3)) (ht : (pc : Int) + off = (tgt : Int)) (kt : x < y → JW l cl Ns Ts own cc nL ret R tgt ls st ws Q) (kf : ¬ x < y → JW l cl Ns Ts own cc nL ret R (pc + 3) ls st ws Q) : JW l cl Ns Ts own cc nL ret R pc ls (.int y :: .int x :: st) ws Q := by
  intro p e s m args below meth c H locs D cA ad A lsA X
  obtain ⟨hx, hb, hr, hml, hlk, hown, hts, hN, hK, hP, hD, hS, hl⟩ := id X
  exact lv_icmp_lt hx hb hd ht (fun h => kt h p e s m args below meth c H locs D cA ad A lsA X) (fun h => kf h p e s m args below meth c H locs D cA ad A lsA X)
theorem J_if_ge {x : Int32} {off : Int} {tgt : Nat} (hd : decode cc pc = .ok (.ifCond .ge off, 3)) (ht : (pc : Int) + off = (tgt : Int)) (kt : 0 ≤ x → JW l cl Ns Ts own cc nL ret R tgt ls st ws Q) (kf : ¬ 0 ≤ x → JW l cl Ns Ts own cc nL ret R (pc + 3) ls st ws Q) : JW l cl Ns Ts own cc nL ret R pc ls (.int x :: st) ws Q := by
  intro p e s m args below meth c H locs D cA ad A lsA X
  obtain ⟨hx, hb, hr, hml, hlk, hown, hts, hN, hK, hP, hD, hS, hl⟩ := id X
  exact lv_if_ge hx hb hd ht (fun h => kt h p e s m args below meth c H locs D cA ad A lsA X) (fun h => kf h p e s m args below meth c H locs D cA ad A lsA X)
theorem J_icmp_ge {x y : Int32} {off : Int} {tgt : Nat} (hd : decode cc pc = .ok (.if_icmp .ge off, 3)) (ht : (pc : Int) + off = (tgt : Int)) (kt : y ≤ x → JW l cl Ns Ts own cc nL ret R tgt ls st ws Q) (kf : ¬ y ≤ x → JW l cl Ns Ts own cc nL ret R (pc + 3) ls st ws Q) : JW l cl Ns Ts own cc nL ret R pc ls (.int y :: .int x :: st) ws Q := by
  intro p e s m args below meth c H locs D cA ad A lsA X
  obtain ⟨hx, hb, hr, hml, hlk, hown, hts, hN, hK, hP, hD, hS, hl⟩ := id X
  exact lv_icmp_ge hx hb hd ht (fun h => kt h p e s m args below meth c H locs D cA ad A lsA X) (fun h => kf h p e s m args below meth c H locs D cA ad A lsA X)
theorem J_if_gt {x : Int32} {off : Int} {tgt : Nat} (hd : decode cc pc = .ok (.ifCond .gt off, 3)) (ht : (pc : Int) + off = (tgt : Int)) (kt : 0 < x → JW l cl Ns Ts own cc nL ret R tgt ls st ws Q) (kf : ¬ 0 < x → JW l cl Ns Ts own cc nL ret R (pc + 3) ls st ws Q) : JW l cl Ns Ts own cc nL ret R pc ls (.int x :: st) ws Q := by
  intro p e s m args below meth c H locs D cA ad A lsA X
  obtain ⟨hx, hb, hr, hml, hlk, hown, hts, hN, hK, hP, hD, hS, hl⟩ := id X
  exact lv_if_gt hx hb hd ht (fun h => kt h p e s m args below meth c H locs D cA ad A lsA X) (fun h => kf h p e s m args below meth c H locs D cA ad A lsA X)
theorem J_icmp_gt {x y : Int32} {off : Int} {tgt : Nat} (hd : decode cc pc = .ok (.if_icmp .gt off, 3)) (ht : (pc : Int) + off = (tgt : Int)) (kt : y < x → JW l cl Ns Ts own cc nL ret R tgt ls st ws Q) (kf : ¬ y < x → JW l cl Ns Ts own cc nL ret R (pc + 3) ls st ws Q) : JW l cl Ns Ts own cc nL ret R pc ls (.int y :: .int x :: st) ws Q := by
  intro p e s m args below meth c H locs D cA ad A lsA X
  obtain ⟨hx, hb, hr, hml, hlk, hown, hts, hN, hK, hP, hD, hS, hl⟩ := id X
  exact lv_icmp_gt hx hb hd ht (fun h => kt h p e s m args below meth c H locs D cA ad A lsA X) (fun h => kf h p e s m args below meth c H locs D cA ad A lsA X)
theorem J_if_le {x : Int32} {off : Int} {tgt : Nat} (hd : decode cc pc = .ok (.ifCond .le off, 3)) (ht : (pc : Int) + off = (tgt : Int)) (kt : x ≤ 0 → JW l cl Ns Ts own cc nL ret R tgt ls st ws Q) (kf : ¬ x ≤ 0 → JW l cl Ns Ts own cc nL ret R (pc + 3) ls st ws Q) : JW l cl Ns Ts own cc nL ret R pc ls (.int x :: st) ws Q := by
  intro p e s m args below meth c H locs D cA ad A lsA X
  obtain ⟨hx, hb, hr, hml, hlk, hown, hts, hN, hK, hP, hD, hS, hl⟩ := id X
  exact lv_if_le hx hb hd ht (fun h => kt h p e s m args below meth c H locs D cA ad A lsA X) (fun h => kf h p e s m args below meth c H locs D cA ad A lsA X)
theorem J_icmp_le {x y : Int32} {off : Int} {tgt : Nat} (hd : decode cc pc = .ok (.if_icmp .le off, 3)) (ht : (pc : Int) + off = (tgt : Int)) (kt : x ≤ y → JW l cl Ns Ts own cc nL ret R tgt ls st ws Q) (kf : ¬ x ≤ y → JW l cl Ns Ts own cc nL ret R (pc + 3) ls st ws Q) : JW l cl Ns Ts own cc nL ret R pc ls (.int y :: .int x :: st) ws Q := by
  intro p e s m args below meth c H locs D cA ad A lsA X
  obtain ⟨hx, hb, hr, hml, hlk, hown, hts, hN, hK, hP, hD, hS, hl⟩ := id X
  exact lv_icmp_le hx hb hd ht (fun h => kt h p e s m args below meth c H locs D cA ad A lsA X) (fun h => kf h p e s m args below meth c H locs D cA ad A lsA X)
theorem J_goto {off : Int} {tgt : Nat} (hd : decode cc pc = .ok (.goto off, 3)) (ht : (pc : Int) + off = (tgt : Int)) (k : JW l cl Ns Ts own cc nL ret R tgt ls st ws Q) : JW l cl Ns Ts own cc nL ret R pc ls st ws Q := by
  intro p e s m args below meth c H locs D cA ad A lsA X
  obtain ⟨hx, hb, hr, hml, hlk, hown, hts, hN, hK, hP, hD, hS, hl⟩ := id X
  exact lv_goto hx hb hd ht (k p e s m args below meth c H locs D cA ad A lsA X)
theorem J_tableOut {dflt lo hi : Int} {offs : Array Int} {len : Nat} {x : Int32} {tgt : Nat} (hd : decode cc pc = .ok (.tableswitch dflt lo hi offs, len)) (h : x.toInt < lo ∨ hi < x.toInt) (ht : (pc : Int) + dflt = (tgt : Int)) (k : JW l cl Ns Ts own cc nL ret R tgt ls st ws Q) : JW l cl Ns Ts own cc nL ret R pc ls (.int x :: st) ws Q := by
  intro p e s m args below meth c H locs D cA ad A lsA X
  obtain ⟨hx, hb, hr, hml, hlk, hown, hts, hN, hK, hP, hD, hS, hl⟩ := id X
  exact lv_tableOut hx hb hd h ht (k p e s m args below meth c H locs D cA ad A lsA X)
theorem J_tableIn {dflt lo hi : Int} {offs : Array Int} {len : Nat} {x : Int32} {off : Int} {tgt : Nat} (hd : decode cc pc = .ok (.tableswitch dflt lo hi offs, len)) (h1 : ¬ x.toInt < lo) (h2 : ¬ hi < x.toInt) (ho : offs[(x.toInt - lo).toNat]? = some off) (ht : (pc : Int) + off = (tgt : Int)) (k : JW l cl Ns Ts own cc nL ret R tgt ls st ws Q) : JW l cl Ns Ts own cc nL ret R pc ls (.int x :: st) ws Q := by
  intro p e s m args below meth c H locs D cA ad A lsA X
  obtain ⟨hx, hb, hr, hml, hlk, hown, hts, hN, hK, hP, hD, hS, hl⟩ := id X
  exact lv_tableIn hx hb hd h1 h2 ho ht (k p e s m args below meth c H locs D cA ad A lsA X)
theorem J_iret {v : Int32} {ty : FieldType} (hd : decode cc pc = .ok (.ireturn, 1)) (hr0 : ret = some ty) (hn : narrow ty (.int v) = .int v) (hq : Q (some (.int v)) ws) : JW l cl Ns Ts own cc nL ret R pc ls [.int v] ws Q := by
  intro p e s m args below meth c H locs D cA ad A lsA X
  obtain ⟨hx, hb, hr, hml, hlk, hown, hts, hN, hK, hP, hD, hS, hl⟩ := id X
  exact W.zret hx hb (hr.trans hr0) hn (fun t ht hW => ⟨⟨some (.int v), ws, rfl, hq, rfl, by rw [ht]; exact hP, va_K.moved hW.alike hK, hD⟩, hS.F ht⟩) hS.2.2 hd hlk
theorem J_vret (hd : decode cc pc = .ok (.return_, 1)) (hr0 : ret = none) (hq : Q none ws) : JW l cl Ns Ts own cc nL ret R pc ls [] ws Q := by
  intro p e s m args below meth c H locs D cA ad A lsA X
  obtain ⟨hx, hb, hr, hml, hlk, hown, hts, hN, hK, hP, hD, hS, hl⟩ := id X
  exact W.vret hx hb (hr.trans hr0) (fun t ht hW => ⟨⟨none, ws, rfl, hq, rfl, by rw [ht]; exact hP, va_K.moved hW.alike hK, hD⟩, hS.F ht⟩) hS.2.2 hd hlk
theorem J_get {index k0 ci j N : Nat} {fs : List Value} {v : Value} {C : String} {T : u_T} (hd : decode cc pc = .ok (.getfield index, 3)) (he : ws[k0]? = some (.inr (ci, fs))) (hc : cl[ci]? = some (C, T, N)) (hin : ∀ w ∈ u_ws C T N, w ∈ Ts) (hj : j < N) (hlk0 : Cond.fieldLink own index (T j).1 (T j).2.1 (T j).2.2.1 ∈ Ts) (hv : fs[j]? = some v) (k : JW l cl Ns Ts own cc nL ret R (pc + 3) ls (v :: st) ws Q) : JW l cl Ns Ts own cc nL ret R pc ls (.ref k0 :: st) ws Q := by
  intro p e s m args below meth c H locs D cA ad A lsA X
  obtain ⟨hx, hb, hr, hml, hlk, hown, hts, hN, hK, hP, hD, hS, hl⟩ := id X
  exact va_get hx hb hts hin hown hK hP _ (jw_at he) hc j hj (hts _ hlk0) (fun _ h => h) (v := jv ad v) (by simp [hv]) hd (k p e s m args below meth c H locs D cA ad A lsA X)
theorem J_getN {index k0 ci j N : Nat} {fs : List Value} {v : Value} {C host : String} {T : u_T} (hd : decode cc pc = .ok (.getfield index, 3)) (he : ws[k0]? = some (.inr (ci, fs))) (hc : cl[ci]? = some (C, T, N)) (hin : ∀ w ∈ u_ws C T N, w ∈ Ts) (hj : j < N) (hlk0 : Cond.fieldLinkNest own index (T j).1 (T j).2.1 (T j).2.2.1 host ∈ Ts) (hv : fs[j]? = some v) (k : JW l cl Ns Ts own cc nL ret R (pc + 3) ls (v :: st) ws Q) : JW l cl Ns Ts own cc nL ret R pc ls (.ref k0 :: st) ws Q := by
  intro p e s m args below meth c H locs D cA ad A lsA X
  obtain ⟨hx, hb, hr, hml, hlk, hown, hts, hN, hK, hP, hD, hS, hl⟩ := id X
  exact va_getN hx hb hts hin hown hK hP _ (jw_at he) hc j hj (hts _ hlk0) (fun _ h => h) (v := jv ad v) (by simp [hv]) hd (k p e s m args below meth c H locs D cA ad A lsA X)
theorem J_put {index k0 ci j N : Nat} {fs : List Value} {x : Int32} {C : String} {T : u_T} {ty : FieldType} (hd : decode cc pc = .ok (.putfield index, 3)) (he : ws[k0]? = some (.inr (ci, fs))) (hc : cl[ci]? = some (C, T, N)) (hin : ∀ w ∈ u_ws C T N, w ∈ Ts) (ty0 : Nat → FieldType) (hty : ∀ i, i < N → parseFieldDescriptor (T i).2.2.1 = some (ty0 i)) (hnm : ∀ a, a < N → ∀ b, b < N → a ≠ b → (T a).2.1 ≠ (T b).2.1) (hj : j < N) (hlk0 : Cond.fieldLink own index (T j).1 (T j).2.1 (T j).2.2.1 ∈ Ts) (hfin : (T j).2.2.2 = false) (hpd : parseFieldDescriptor (T j).2.2.1 = some ty) (hn : narrow ty (.int x) = .int x) (hfit : fits ty (.int x) = true) (hl0 : j < fs.length)
    (k : JW l cl Ns Ts own cc nL ret R (pc + 3) ls st (ws.set k0 (.inr (ci, fs.set j (.int x)))) Q) : JW l cl Ns Ts own cc nL ret R pc ls (.int x :: .ref k0 :: st) ws Q := by
  intro p e s m args below meth c H locs D cA ad A lsA X
  obtain ⟨hx, hb, hr, hml, hlk, hown, hts, hN, hK, hP, hD, hS, hl⟩ := id X
  have e1 : je cA ad (.inr (ci, fs.set j (.int x))) = .inr (ci, (fs.map (jv ad)).set j (.int x)) := by
    show Sum.inr (ci, (fs.set j (.int x)).map (jv ad)) = _
    rw [List.map_set]; rfl
  refine va_put hx hb hts hin ty0 hty hnm hown hK hP hD hS k0 (jw_at he) hc j hj (hts _ hlk0) (fun _ h => h) hfin (v := .int x) hpd hn hfit (by simp [hl0]) hd (fun H1 locs1 hP1 hD1 hS1 => ?_)
  rw [← e1, jw_set] at hP1 hD1
  have := k p e s m args below meth c H1 locs1 D cA ad A lsA ⟨hx, hb, hr, hml, hlk, hown, hts, hN, hK, hP1, hD1, hS1, hl⟩
  rw [List.length_set] at this
  exact this
theorem J_putN {index k0 ci j N : Nat} {fs : List Value} {x : Int32} {C host : String} {T : u_T} {ty : FieldType} (hd : decode cc pc = .ok (.putfield index, 3)) (he : ws[k0]? = some (.inr (ci, fs))) (hc : cl[ci]? = some (C, T, N)) (hin : ∀ w ∈ u_ws C T N, w ∈ Ts) (ty0 : Nat → FieldType) (hty : ∀ i, i < N → parseFieldDescriptor (T i).2.2.1 = some (ty0 i)) (hnm : ∀ a, a < N → ∀ b, b < N → a ≠ b → (T a).2.1 ≠ (T b).2.1) (hj : j < N) (hlk0 : Cond.fieldLinkNest own index (T j).1 (T j).2.1 (T j).2.2.1 host ∈ Ts) (hfin : (T j).2.2.2 = false) (hpd : parseFieldDescriptor (T j).2.2.1 = some ty) (hn : narrow ty (.int x) = .int x) (hfit : fits ty (.int x) = true) (hl0 : j < fs.length)
    (k : JW l cl Ns Ts own cc nL ret R (pc + 3) ls st (ws.set k0 (.inr (ci, fs.set j (.int x)))) Q) : JW l cl Ns Ts own cc nL ret R pc ls (.int x :: .ref k0 :: st) ws Q := by
  intro p e s m args below meth c H locs D cA ad A lsA X
  obtain ⟨hx, hb, hr, hml, hlk, hown, hts, hN, hK, hP, hD, hS, hl⟩ := id X
  have e1 : je cA ad (.inr (ci, fs.set j (.int x))) = .inr (ci, (fs.map (jv ad)).set j (.int x)) := by
    show Sum.inr (ci, (fs.set j (.int x)).map (jv ad)) = _
    rw [List.map_set]; rfl
  refine va_putN hx hb hts hin ty0 hty hnm hown hK hP hD hS k0 (jw_at he) hc j hj (hts _ hlk0) (fun _ h => h) hfin (v := .int x) hpd hn hfit (by simp [hl0]) hd (fun H1 locs1 hP1 hD1 hS1 => ?_)
  rw [← e1, jw_set] at hP1 hD1
  have := k p e s m args below meth c H1 locs1 D cA ad A lsA ⟨hx, hb, hr, hml, hlk, hown, hts, hN, hK, hP1, hD1, hS1, hl⟩
  rw [List.length_set] at this
  exact this
theorem J_iald {k0 n : Nat} {f : Nat → Int32} {i : Int32} (hd : decode cc pc = .ok (.iaload, 1)) (he : ws[k0]? = some (.inl (0, n, f))) (hi : vp_in i n) (k : JW l cl Ns Ts own cc nL ret R (pc + 1) ls (.int (f i.toNatClampNeg) :: st) ws Q) : JW l cl Ns Ts own cc nL ret R pc ls (.int i :: .ref k0 :: st) ws Q := by
  intro p e s m args below meth c H locs D cA ad A lsA X
  obtain ⟨hx, hb, hr, hml, hlk, hown, hts, hN, hK, hP, hD, hS, hl⟩ := id X
  exact va_iald hx hb hK hP _ 0 (jw_at he) rfl hi hd (k p e s m args below meth c H locs D cA ad A lsA X)
theorem J_zald {k0 n : Nat} {f : Nat → Int32} {i : Int32} (hd : decode cc pc = .ok (.baload, 1)) (he : ws[k0]? = some (.inl (1, n, f))) (hi : vp_in i n) (k : JW l cl Ns Ts own cc nL ret R (pc + 1) ls (.int (f i.toNatClampNeg) :: st) ws Q) : JW l cl Ns Ts own cc nL ret R pc ls (.int i :: .ref k0 :: st) ws Q := by
  intro p e s m args below meth c H locs D cA ad A lsA X
  obtain ⟨hx, hb, hr, hml, hlk, hown, hts, hN, hK, hP, hD, hS, hl⟩ := id X
  exact va_zald hx hb hK hP _ 1 (jw_at he) rfl hi hd (k p e s m args below meth c H locs D cA ad A lsA X)
theorem J_iast {k0 n : Nat} {f : Nat → Int32} {i x : Int32} (hd : decode cc pc = .ok (.iastore, 1)) (he : ws[k0]? = some (.inl (0, n, f))) (hi : vp_in i n) (k : JW l cl Ns Ts own cc nL ret R (pc + 1) ls st (ws.set k0 (.inl (0, n, upd f i.toNatClampNeg x))) Q) : JW l cl Ns Ts own cc nL ret R pc ls (.int x :: .int i :: .ref k0 :: st) ws Q := by
  intro p e s m args below meth c H locs D cA ad A lsA X
  obtain ⟨hx, hb, hr, hml, hlk, hown, hts, hN, hK, hP, hD, hS, hl⟩ := id X
  refine va_iast hx hb hK hP hD hS k0 0 (jw_at he) rfl hi hd (fun H1 locs1 hP1 hD1 hS1 => ?_)
  have e1 : je cA ad (.inl (0, n, upd f i.toNatClampNeg x)) = .inl (cA 0, n, .inl (upd f i.toNatClampNeg x)) := rfl
  rw [← e1, jw_set] at hP1 hD1
  have := k p e s m args below meth c H1 locs1 D cA ad A lsA ⟨hx, hb, hr, hml, hlk, hown, hts, hN, hK, hP1, hD1, hS1, hl⟩
  rw [List.length_set] at this
  exact this
theorem J_zast {k0 n : Nat} {f : Nat → Int32} {i x : Int32} (hd : decode cc pc = .ok (.bastore, 1)) (he : ws[k0]? = some (.inl (1, n, f))) (hi : vp_in i n) (k : JW l cl Ns Ts own cc nL ret R (pc + 1) ls st (ws.set k0 (.inl (1, n, upd f i.toNatClampNeg (vp_nar .boolean x)))) Q) : JW l cl Ns Ts own cc nL ret R pc ls (.int x :: .int i :: .ref k0 :: st) ws Q := by
  intro p e s m args below meth c H locs D cA ad A lsA X
  obtain ⟨hx, hb, hr, hml, hlk, hown, hts, hN, hK, hP, hD, hS, hl⟩ := id X
  refine va_zast hx hb hK hP hD hS k0 1 (jw_at he) rfl hi hd (fun H1 locs1 hP1 hD1 hS1 => ?_)
  have e1 : je cA ad (.inl (1, n, upd f i.toNatClampNeg (vp_nar .boolean x))) = .inl (cA 1, n, .inl (upd f i.toNatClampNeg (vp_nar .boolean x))) := rfl
  rw [← e1, jw_set] at hP1 hD1
  have := k p e s m args below meth c H1 locs1 D cA ad A lsA ⟨hx, hb, hr, hml, hlk, hown, hts, hN, hK, hP1, hD1, hS1, hl⟩
  rw [List.length_set] at this
  exact this
theorem J_alen {k0 t n : Nat} {f : Nat → Int32} {v : Int32} (ht : t < 2) (hd : decode cc pc = .ok (.arraylength, 1)) (he : ws[k0]? = some (.inl (t, n, f))) (hv : Int32.ofNat n = v) (k : JW l cl Ns Ts own cc nL ret R (pc + 1) ls (.int v :: st) ws Q) : JW l cl Ns Ts own cc nL ret R pc ls (.ref k0 :: st) ws Q := by
  intro p e s m args below meth c H locs D cA ad A lsA X
  obtain ⟨hx, hb, hr, hml, hlk, hown, hts, hN, hK, hP, hD, hS, hl⟩ := id X
  have hty : ∃ ty, (jT cA)[t]? = some (cA t, ty) := by
    match t, ht with
    | 0, _ => exact ⟨_, rfl⟩
    | 1, _ => exact ⟨_, rfl⟩
  obtain ⟨ty, hty⟩ := hty
  exact va_alen (x := (n, .inl f)) hx hb hK hP _ t (jw_at he) hty hv hd (k p e s m args below meth c H locs D cA ad A lsA X)
theorem J_mmax {index : Nat} {x y : Int32} (hd : decode cc pc = .ok (.invokestatic index, 3)) (h1 : Cond.methodLink own index Lib.Math.max.name ∈ Ts) (h2 : Cond.static Lib.Math.max.name ∈ Ts) (h3 : Cond.initialized "java/lang/Math" ∈ Ts) (h4 : Cond.code Lib.Math.max.name Lib.Math.max.code 2 (some .int) ∈ Ts) (hf : 1 ≤ R.frames) (hlo : (st.map fun v => v.category).sum + 13 ≤ R.locals) (k : JW l cl Ns Ts own cc nL ret R (pc + 3) ls (.int (if x < y then y else x) :: st) ws Q) : JW l cl Ns Ts own cc nL ret R pc ls (.int y :: .int x :: st) ws Q := by
  intro p e s m args below meth c H locs D cA ad A lsA X
  obtain ⟨hx, hb, hr, hml, hlk, hown, hts, hN, hK, hP, hD, hS, hl⟩ := id X
  have e1 : ((st.map (jv ad)).map fun v => v.category).sum = (st.map fun v => v.category).sum := by
    rw [List.map_map]; congr 1; apply List.map_congr_left; intro v _; exact jv_cat ad v
  exact va_mmax hx hb (by rw [hml]; exact hl.1.symm) hown (hts _ h1) (hts _ h2) (hts _ h3) (hts _ h4) hf (by rw [e1]; exact hlo) (Nat.zero_le _) (Nat.zero_le _) hd (k p e s m args below meth c H locs D cA ad A lsA X)
theorem J_mmin {index : Nat} {x y : Int32} (hd : decode cc pc = .ok (.invokestatic index, 3)) (h1 : Cond.methodLink own index Lib.Math.min.name ∈ Ts) (h2 : Cond.static Lib.Math.min.name ∈ Ts) (h3 : Cond.initialized "java/lang/Math" ∈ Ts) (h4 : Cond.code Lib.Math.min.name Lib.Math.min.code 2 (some .int) ∈ Ts) (hf : 1 ≤ R.frames) (hlo : (st.map fun v => v.category).sum + 13 ≤ R.locals) (k : JW l cl Ns Ts own cc nL ret R (pc + 3) ls (.int (if y < x then y else x) :: st) ws Q) : JW l cl Ns Ts own cc nL ret R pc ls (.int y :: .int x :: st) ws Q := by
  intro p e s m args below meth c H locs D cA ad A lsA X
  obtain ⟨hx, hb, hr, hml, hlk, hown, hts, hN, hK, hP, hD, hS, hl⟩ := id X
  have e1 : ((st.map (jv ad)).map fun v => v.category).sum = (st.map fun v => v.category).sum := by
    rw [List.map_map]; congr 1; apply List.map_congr_left; intro v _; exact jv_cat ad v
  exact va_mmin hx hb (by rw [hml]; exact hl.1.symm) hown (hts _ h1) (hts _ h2) (hts _ h3) (hts _ h4) hf (by rw [e1]; exact hlo) (Nat.zero_le _) (Nat.zero_le _) hd (k p e s m args below meth c H locs D cA ad A lsA X)
theorem j_good {y : MethodName} {bytes : ByteArray} {maxLy : Nat} {rety : Option FieldType} {Ts : List Cond} (hcode : Cond.code y bytes maxLy rety ∈ Ts) (hgood : ∀ w ∈ Ts, (w.onTables && w.keeps) = true ∨ ∃ ty, w = .arrayClass ty) : GoodIn Ts (.code y bytes maxLy rety :: Ts) := by
  intro w hw
  rcases List.mem_cons.mp hw with rfl | hw
  · exact ⟨hcode, hgood _ hcode⟩
  · exact ⟨hw, hgood _ hw⟩
/-- what comes back from a call of ours -/
theorem j_call {p : Program} {e : Env} {s : State} {m : MethodId} {args : Array Value} {below : List Frame} {meth : Method} {c : Code} {H : Heap} {locs : List Loc} {D : va_G} {cA : Nat → ClassId} {ad : Nat → Nat} {A : Nat → Prop} {lsA : Array Slot} {Qy : Option Value → jW → Prop} {st0 rest : List Value} {a : Array Value}
    (X : jC cl Ns Ts own cc nL ret ls ws p s m args meth c H locs D cA ad A lsA)
    (hrun : va_Run p l e R s m args below meth c H locs 0 0 0 0 (F0 m pc lsA st0) (rest.map (jv ad)) (jQ cl cA D ad (jA ad ws.length) ws.length Qy a) (jA ad ws.length))
    (k : ∀ (r : Option Value) (w : jW), Qy r w → w.length = ws.length → JW l cl Ns Ts own cc nL ret R (pc + 3) ls (r.toList ++ rest) w Q) :
    W p l e R s m args below meth c H locs 0 0 (MQ below (jQ cl cA D ad A ws.length Q) args s 0 0 A) (F0 m pc lsA st0) := by
  obtain ⟨hx, hb, hr, hml, hlk, hown, hts, hN, hK, hP, hD, hS, hl⟩ := id X
  have hAA : ∀ q, jA ad ws.length q → A q := by
    rintro q ⟨j, hj, rfl⟩
    have hj2 : ws[j]? = some ws[j] := List.getElem?_eq_getElem hj
    exact hD.2 j _ (jw_at hj2)
  intro T hT Y
  obtain ⟨v, st₀, t, T', L, h0, X', hL, e1, e2, ⟨⟨r, w, hv, hq, hwl, hP1, hK1, hD1⟩, hz, hk⟩, stp⟩ := hrun T hT Y
  rw [h0] at hz hk
  have hv' : v = r.map (jv ad) := by simpa using hv
  subst hv'
  have hS' : va_S A s.heap T'.heap (locs ++ L) := ⟨Nat.le_trans hS.1 (by rw [e1]; exact hz), fun q h1 h2 => by rw [e1, hk q (Nat.lt_of_lt_of_le h1 hS.1) (fun z => h2 (hAA q z))]; exact hS.2.1 q h1 h2, fun q hq => by
      rcases List.mem_append.mp hq with h | h
      · exact hS.2.2 q h
      · exact hAA _ (hL q h)⟩
  have X2 : jC cl Ns Ts own cc nL ret ls w p s m args meth c T'.heap (locs ++ L) D cA ad A lsA := ⟨hx, hb, hr, hml, hlk, hown, hts, hN, hK, by rw [e1]; exact hP1, hD1.weaken (fun _ _ _ h => hAA _ h), hS', hl⟩
  have K := k r w hq hwl p e s m args below meth c T'.heap (locs ++ L) D cA ad A lsA X2
  rw [hwl] at K
  have e3 : (r.toList ++ rest).map (jv ad) = (r.map (jv ad)).toList ++ rest.map (jv ad) := by cases r <;> simp
  rw [e3] at K
  obtain ⟨t2, a1, b1⟩ := K T' rfl X'
  exact ⟨t2, stp t2 a1, b1⟩
theorem j_sum (ad : Nat → Nat) (st : List Value) : ((st.map (jv ad)).map fun v => v.category).sum = (st.map fun v => v.category).sum := by
  rw [List.map_map]; congr 1; apply List.map_congr_left; intro v _; exact jv_cat ad v
theorem j_blind {D : va_G} {cA : Nat → ClassId} {ad : Nat → Nat} {av : List Value} : FrameBlind (va_Pc (av.map (jv ad)) (fun U => jN Ns U ∧ va_P D cl (jw cA ad ws) U.heap ∧ va_K D cl (jT cA) U ∧ va_D (jA ad ws.length) (jw cA ad ws))) := by
  intro a U g mk q
  obtain ⟨q0, qN, qP, qK, qD⟩ := q
  exact ⟨q0, fun w hw => va_Nw.same (u := U) (U := U.calling g mk a) rfl rfl (qN w hw), qP, va_K.moved (u := U) (U := U.calling g mk a) (Vm.Alike.refl U.vm) qK, qD⟩
theorem j_own {p : Program} {s : State} {m : MethodId} {args : Array Value} {meth : Method} {c : Code} {H : Heap} {locs : List Loc} {D : va_G} {cA : Nat → ClassId} {ad : Nat → Nat} {A : Nat → Prop} {lsA : Array Slot} (X : jC cl Ns Ts own cc nL ret ls ws p s m args meth c H locs D cA ad A lsA) : va_D (jA ad ws.length) (jw cA ad ws) := by
  obtain ⟨hx, hb, hr, hml, hlk, hown, hts, hN, hK, hP, hD, hS, hl⟩ := X
  refine ⟨hD.1, fun k q hk => ?_⟩
  have hk2 : k < ws.length := by
    have := (List.getElem?_eq_some_iff.mp hk).1
    rwa [jw_len] at this
  have := jw_at (cA := cA) (ad := ad) (List.getElem?_eq_getElem hk2)
  rw [this] at hk
  cases hk
  exact ⟨k, hk2, rfl⟩
theorem J_callS {index n maxLy : Nat} {y : MethodName} {bytes : ByteArray} {rety : Option FieldType} {Ry : Room} {As rest : List Value} {Qy : Option Value → jW → Prop} (hd : decode cc pc = .ok (.invokestatic index, 3)) (hM : JMet l cl Ns (.code y bytes maxLy rety :: Ts) y Ry As ws Qy) (hcode : Cond.code y bytes maxLy rety ∈ Ts) (hgood : ∀ w ∈ Ts, (w.onTables && w.keeps) = true ∨ ∃ ty, w = .arrayClass ty) (hrc : Ry.cells = 0) (hrs : Ry.slots = 0) (hini : Cond.initialized y.cls ∈ Ts) (hli : Cond.methodLink own index y ∈ Ts) (hdy : y.cls ≠ "java/lang/invoke/MethodHandle" ∧ y.cls ≠ "java/lang/invoke/VarHandle" ∧ (parseMethodDescriptor y.desc).map (fun d => d.parameters.length) = some n) (hR : Ry.frames + 1 ≤ R.frames ∧ 8 + (maxLy + 11) + Ry.locals ≤ R.locals) (hn : As.length = n) (hsum : (rest.map fun v => v.category).sum ≤ 8) (hst : Cond.static y ∈ Ts)
    (k : ∀ (r : Option Value) (w : jW), Qy r w → w.length = ws.length → JW l cl Ns Ts own cc nL ret R (pc + 3) ls (r.toList ++ rest) w Q) : JW l cl Ns Ts own cc nL ret R pc ls (As.reverse ++ rest) ws Q := by
  intro p e s m args below meth c H locs D cA ad A lsA X
  obtain ⟨hx, hb, hr, hml, hlk, hown, hts, hN, hK, hP, hD, hS, hl⟩ := id X
  have hDc := j_own X
  have hG := j_good hcode hgood
  refine j_call X (rest := rest) (va_runS (As := As.map (jv ad)) (rest := rest.map (jv ad)) (n := n) ⟨hx, hb, hml, hown, hts⟩ (hM D cA ad) ⟨callB_of n hts hG rfl hrc hrs (hts _ hini) (hts _ hli) hdy hR, hts _ hst⟩ ⟨j_blind, fun U hU hW => ⟨rfl, jN_warm hW hN, by rw [hU]; exact hP, va_K.moved hW.alike hK, hDc⟩⟩ rfl (by rw [List.length_map]; exact hn) hl.1 (by simp) (lv_room (by rw [j_sum]; exact hsum)) hd ⟨Nat.zero_le _, Nat.zero_le _⟩) k
theorem J_callSN {index n maxLy : Nat} {y : MethodName} {bytes : ByteArray} {rety : Option FieldType} {Ry : Room} {As rest : List Value} {Qy : Option Value → jW → Prop} {host : String} (hd : decode cc pc = .ok (.invokestatic index, 3)) (hM : JMet l cl Ns (.code y bytes maxLy rety :: Ts) y Ry As ws Qy) (hcode : Cond.code y bytes maxLy rety ∈ Ts) (hgood : ∀ w ∈ Ts, (w.onTables && w.keeps) = true ∨ ∃ ty, w = .arrayClass ty) (hrc : Ry.cells = 0) (hrs : Ry.slots = 0) (hini : Cond.initialized y.cls ∈ Ts) (hli : ((own, index, y, host) : String × Nat × MethodName × String) ∈ Ns) (hdy : y.cls ≠ "java/lang/invoke/MethodHandle" ∧ y.cls ≠ "java/lang/invoke/VarHandle" ∧ (parseMethodDescriptor y.desc).map (fun d => d.parameters.length) = some n) (hR : Ry.frames + 1 ≤ R.frames ∧ 8 + (maxLy + 11) + Ry.locals ≤ R.locals) (hn : As.length = n) (hsum : (rest.map fun v => v.category).sum ≤ 8) (hst : Cond.static y ∈ Ts)
    (k : ∀ (r : Option Value) (w : jW), Qy r w → w.length = ws.length → JW l cl Ns Ts own cc nL ret R (pc + 3) ls (r.toList ++ rest) w Q) : JW l cl Ns Ts own cc nL ret R pc ls (As.reverse ++ rest) ws Q := by
  intro p e s m args below meth c H locs D cA ad A lsA X
  obtain ⟨hx, hb, hr, hml, hlk, hown, hts, hN, hK, hP, hD, hS, hl⟩ := id X
  have hDc := j_own X
  have hG := j_good hcode hgood
  refine j_call X (rest := rest) (va_runSN (As := As.map (jv ad)) (rest := rest.map (jv ad)) (n := n) ⟨hx, hb, hml, hown, hts⟩ (hM D cA ad) ⟨va_cnB n hts hG rfl hrc hrs (hN _ hli) (hts _ hini) hdy hR, hts _ hst, trivial⟩ ⟨j_blind, fun U hU hW => ⟨rfl, jN_warm hW hN, by rw [hU]; exact hP, va_K.moved hW.alike hK, hDc⟩⟩ rfl (by rw [List.length_map]; exact hn) hl.1 (by simp) (lv_room (by rw [j_sum]; exact hsum)) hd ⟨Nat.zero_le _, Nat.zero_le _⟩) k
theorem J_callV {index n maxLy : Nat} {y : MethodName} {bytes : ByteArray} {rety : Option FieldType} {Ry : Room} {As rest : List Value} {Qy : Option Value → jW → Prop} {b ci N : Nat} {fs : List Value} {T : u_T} (hd : decode cc pc = .ok (.invokevirtual index, 3)) (hM : JMet l cl Ns (.code y bytes maxLy rety :: Ts) y Ry (.ref b :: As) ws Qy) (he : ws[b]? = some (.inr (ci, fs))) (hc : cl[ci]? = some (y.cls, T, N)) (hcode : Cond.code y bytes maxLy rety ∈ Ts) (hgood : ∀ w ∈ Ts, (w.onTables && w.keeps) = true ∨ ∃ ty, w = .arrayClass ty) (hrc : Ry.cells = 0) (hrs : Ry.slots = 0) (hini : Cond.initialized y.cls ∈ Ts) (hli : Cond.methodLink own index y ∈ Ts) (hdy : y.cls ≠ "java/lang/invoke/MethodHandle" ∧ y.cls ≠ "java/lang/invoke/VarHandle" ∧ (parseMethodDescriptor y.desc).map (fun d => d.parameters.length) = some n) (hR : Ry.frames + 1 ≤ R.frames ∧ 8 + (maxLy + 11) + Ry.locals ≤ R.locals) (hn : As.length = n) (hsum : (rest.map fun v => v.category).sum ≤ 8) (hst : Cond.instanceMethod y ∈ Ts) (hsel : Cond.selects y.cls y y ∈ Ts)
    (k : ∀ (r : Option Value) (w : jW), Qy r w → w.length = ws.length → JW l cl Ns Ts own cc nL ret R (pc + 3) ls (r.toList ++ rest) w Q) : JW l cl Ns Ts own cc nL ret R pc ls (As.reverse ++ .ref b :: rest) ws Q := by
  intro p e s m args below meth c H locs D cA ad A lsA X
  obtain ⟨hx, hb, hr, hml, hlk, hown, hts, hN, hK, hP, hD, hS, hl⟩ := id X
  have hDc := j_own X
  have hG := j_good hcode hgood
  refine j_call X (rest := rest) (va_runV (C := y.cls) (b := ad b) (As := As.map (jv ad)) (rest := rest.map (jv ad)) (n := n) ⟨hx, hb, hml, hown, hts⟩ (hM D cA ad) ⟨callB_of n hts hG rfl hrc hrs (hts _ hini) (hts _ hli) hdy hR, hts _ hst, hts _ hsel⟩ ⟨j_blind, va_recv hK hP hc (jw_at he), fun U hU hW => ⟨rfl, jN_warm hW hN, by rw [hU]; exact hP, va_K.moved hW.alike hK, hDc⟩⟩ rfl (by rw [List.length_map]; exact hn) hl.1 (by simp [jv]) (lv_room (by rw [j_sum]; exact hsum)) hd ⟨Nat.zero_le _, Nat.zero_le _⟩) k
theorem J_callVN {index n maxLy : Nat} {y : MethodName} {bytes : ByteArray} {rety : Option FieldType} {Ry : Room} {As rest : List Value} {Qy : Option Value → jW → Prop} {host : String} {b ci N : Nat} {fs : List Value} {T : u_T} (hd : decode cc pc = .ok (.invokevirtual index, 3)) (hM : JMet l cl Ns (.code y bytes maxLy rety :: Ts) y Ry (.ref b :: As) ws Qy) (he : ws[b]? = some (.inr (ci, fs))) (hc : cl[ci]? = some (y.cls, T, N)) (hcode : Cond.code y bytes maxLy rety ∈ Ts) (hgood : ∀ w ∈ Ts, (w.onTables && w.keeps) = true ∨ ∃ ty, w = .arrayClass ty) (hrc : Ry.cells = 0) (hrs : Ry.slots = 0) (hini : Cond.initialized y.cls ∈ Ts) (hli : ((own, index, y, host) : String × Nat × MethodName × String) ∈ Ns) (hdy : y.cls ≠ "java/lang/invoke/MethodHandle" ∧ y.cls ≠ "java/lang/invoke/VarHandle" ∧ (parseMethodDescriptor y.desc).map (fun d => d.parameters.length) = some n) (hR : Ry.frames + 1 ≤ R.frames ∧ 8 + (maxLy + 11) + Ry.locals ≤ R.locals) (hn : As.length = n) (hsum : (rest.map fun v => v.category).sum ≤ 8) (hst : Cond.instanceMethod y ∈ Ts) (hsel : Cond.selects y.cls y y ∈ Ts)
    (k : ∀ (r : Option Value) (w : jW), Qy r w → w.length = ws.length → JW l cl Ns Ts own cc nL ret R (pc + 3) ls (r.toList ++ rest) w Q) : JW l cl Ns Ts own cc nL ret R pc ls (As.reverse ++ .ref b :: rest) ws Q := by
  intro p e s m args below meth c H locs D cA ad A lsA X
  obtain ⟨hx, hb, hr, hml, hlk, hown, hts, hN, hK, hP, hD, hS, hl⟩ := id X
  have hDc := j_own X
  have hG := j_good hcode hgood
  refine j_call X (rest := rest) (va_runVN (C := y.cls) (b := ad b) (As := As.map (jv ad)) (rest := rest.map (jv ad)) (n := n) ⟨hx, hb, hml, hown, hts⟩ (hM D cA ad) ⟨va_cnB n hts hG rfl hrc hrs (hN _ hli) (hts _ hini) hdy hR, hts _ hst, hts _ hsel⟩ ⟨j_blind, va_recv hK hP hc (jw_at he), fun U hU hW => ⟨rfl, jN_warm hW hN, by rw [hU]; exact hP, va_K.moved hW.alike hK, hDc⟩⟩ rfl (by rw [List.length_map]; exact hn) hl.1 (by simp [jv]) (lv_room (by rw [j_sum]; exact hsum)) hd ⟨Nat.zero_le _, Nat.zero_le _⟩) k
theorem J_cSi0 {index maxLy : Nat} {y : MethodName} {bytes : ByteArray} {rety : Option FieldType} {Ry : Room} {r : Int32} {w1 : jW} (hd : decode cc pc = .ok (.invokestatic index, 3)) (hM : JMet l cl Ns (.code y bytes maxLy rety :: Ts) y Ry [] ws (fun v w => v = some (.int r) ∧ w = w1)) (hcode : Cond.code y bytes maxLy rety ∈ Ts) (hgood : ∀ w ∈ Ts, (w.onTables && w.keeps) = true ∨ ∃ ty, w = .arrayClass ty) (hrc : Ry.cells = 0) (hrs : Ry.slots = 0) (hini : Cond.initialized y.cls ∈ Ts) (hli : Cond.methodLink own index y ∈ Ts) (hdy : y.cls ≠ "java/lang/invoke/MethodHandle" ∧ y.cls ≠ "java/lang/invoke/VarHandle" ∧ (parseMethodDescriptor y.desc).map (fun d => d.parameters.length) = some 0) (hR : Ry.frames + 1 ≤ R.frames ∧ 8 + (maxLy + 11) + Ry.locals ≤ R.locals) (hsum : (st.map fun v => v.category).sum ≤ 8) (hst : Cond.static y ∈ Ts)
    (k : JW l cl Ns Ts own cc nL ret R (pc + 3) ls (.int r :: st) w1 Q) : JW l cl Ns Ts own cc nL ret R pc ls (st) ws Q :=
  J_callS (As := []) (rest := st) hd hM hcode hgood hrc hrs hini hli hdy hR rfl hsum hst (fun r0 w hq _ => by obtain ⟨rfl, rfl⟩ := hq; exact k)
theorem J_cSv0 {index maxLy : Nat} {y : MethodName} {bytes : ByteArray} {rety : Option FieldType} {Ry : Room} {w1 : jW} (hd : decode cc pc = .ok (.invokestatic index, 3)) (hM : JMet l cl Ns (.code y bytes maxLy rety :: Ts) y Ry [] ws (fun v w => v = none ∧ w = w1)) (hcode : Cond.code y bytes maxLy rety ∈ Ts) (hgood : ∀ w ∈ Ts, (w.onTables && w.keeps) = true ∨ ∃ ty, w = .arrayClass ty) (hrc : Ry.cells = 0) (hrs : Ry.slots = 0) (hini : Cond.initialized y.cls ∈ Ts) (hli : Cond.methodLink own index y ∈ Ts) (hdy : y.cls ≠ "java/lang/invoke/MethodHandle" ∧ y.cls ≠ "java/lang/invoke/VarHandle" ∧ (parseMethodDescriptor y.desc).map (fun d => d.parameters.length) = some 0) (hR : Ry.frames + 1 ≤ R.frames ∧ 8 + (maxLy + 11) + Ry.locals ≤ R.locals) (hsum : (st.map fun v => v.category).sum ≤ 8) (hst : Cond.static y ∈ Ts)
    (k : JW l cl Ns Ts own cc nL ret R (pc + 3) ls st w1 Q) : JW l cl Ns Ts own cc nL ret R pc ls (st) ws Q :=
  J_callS (As := []) (rest := st) hd hM hcode hgood hrc hrs hini hli hdy hR rfl hsum hst (fun r0 w hq _ => by obtain ⟨rfl, rfl⟩ := hq; exact k)
theorem J_cSi1 {index maxLy : Nat} {y : MethodName} {bytes : ByteArray} {rety : Option FieldType} {Ry : Room} {r : Int32} {v1 : Value} {w1 : jW} (hd : decode cc pc = .ok (.invokestatic index, 3)) (hM : JMet l cl Ns (.code y bytes maxLy rety :: Ts) y Ry [v1] ws (fun v w => v = some (.int r) ∧ w = w1)) (hcode : Cond.code y bytes maxLy rety ∈ Ts) (hgood : ∀ w ∈ Ts, (w.onTables && w.keeps) = true ∨ ∃ ty, w = .arrayClass ty) (hrc : Ry.cells = 0) (hrs : Ry.slots = 0) (hini : Cond.initialized y.cls ∈ Ts) (hli : Cond.methodLink own index y ∈ Ts) (hdy : y.cls ≠ "java/lang/invoke/MethodHandle" ∧ y.cls ≠ "java/lang/invoke/VarHandle" ∧ (parseMethodDescriptor y.desc).map (fun d => d.parameters.length) = some 1) (hR : Ry.frames + 1 ≤ R.frames ∧ 8 + (maxLy + 11) + Ry.locals ≤ R.locals) (hsum : (st.map fun v => v.category).sum ≤ 8) (hst : Cond.static y ∈ Ts)
    (k : JW l cl Ns Ts own cc nL ret R (pc + 3) ls (.int r :: st) w1 Q) : JW l cl Ns Ts own cc nL ret R pc ls (v1 :: st) ws Q :=
  J_callS (As := [v1]) (rest := st) hd hM hcode hgood hrc hrs hini hli hdy hR rfl hsum hst (fun r0 w hq _ => by obtain ⟨rfl, rfl⟩ := hq; exact k)
theorem J_cSv1 {index maxLy : Nat} {y : MethodName} {bytes : ByteArray} {rety : Option FieldType} {Ry : Room} {v1 : Value} {w1 : jW} (hd : decode cc pc = .ok (.invokestatic index, 3)) (hM : JMet l cl Ns (.code y bytes maxLy rety :: Ts) y Ry [v1] ws (fun v w => v = none ∧ w = w1)) (hcode : Cond.code y bytes maxLy rety ∈ Ts) (hgood : ∀ w ∈ Ts, (w.onTables && w.keeps) = true ∨ ∃ ty, w = .arrayClass ty) (hrc : Ry.cells = 0) (hrs : Ry.slots = 0) (hini : Cond.initialized y.cls ∈ Ts) (hli : Cond.methodLink own index y ∈ Ts) (hdy : y.cls ≠ "java/lang/invoke/MethodHandle" ∧ y.cls ≠ "java/lang/invoke/VarHandle" ∧ (parseMethodDescriptor y.desc).map (fun d => d.parameters.length) = some 1) (hR : Ry.frames + 1 ≤ R.frames ∧ 8 + (maxLy + 11) + Ry.locals ≤ R.locals) (hsum : (st.map fun v => v.category).sum ≤ 8) (hst : Cond.static y ∈ Ts)
    (k : JW l cl Ns Ts own cc nL ret R (pc + 3) ls st w1 Q) : JW l cl Ns Ts own cc nL ret R pc ls (v1 :: st) ws Q :=
  J_callS (As := [v1]) (rest := st) hd hM hcode hgood hrc hrs hini hli hdy hR rfl hsum hst (fun r0 w hq _ => by obtain ⟨rfl, rfl⟩ := hq; exact k)
theorem J_cSi2 {index maxLy : Nat} {y : MethodName} {bytes : ByteArray} {rety : Option FieldType} {Ry : Room} {r : Int32} {v1 v2 : Value} {w1 : jW} (hd : decode cc pc = .ok (.invokestatic index, 3)) (hM : JMet l cl Ns (.code y bytes maxLy rety :: Ts) y Ry [v1, v2] ws (fun v w => v = some (.int r) ∧ w = w1)) (hcode : Cond.code y bytes maxLy rety ∈ Ts) (hgood : ∀ w ∈ Ts, (w.onTables && w.keeps) = true ∨ ∃ ty, w = .arrayClass ty) (hrc : Ry.cells = 0) (hrs : Ry.slots = 0) (hini : Cond.initialized y.cls ∈ Ts) (hli : Cond.methodLink own index y ∈ Ts) (hdy : y.cls ≠ "java/lang/invoke/MethodHandle" ∧ y.cls ≠ "java/lang/invoke/VarHandle" ∧ (parseMethodDescriptor y.desc).map (fun d => d.parameters.length) = some 2) (hR : Ry.frames + 1 ≤ R.frames ∧ 8 + (maxLy + 11) + Ry.locals ≤ R.locals) (hsum : (st.map fun v => v.category).sum ≤ 8) (hst : Cond.static y ∈ Ts)
    (k : JW l cl Ns Ts own cc nL ret R (pc + 3) ls (.int r :: st) w1 Q) : JW l cl Ns Ts own cc nL ret R pc ls (v2 :: v1 :: st) ws Q :=
  J_callS (As := [v1, v2]) (rest := st) hd hM hcode hgood hrc hrs hini hli hdy hR rfl hsum hst (fun r0 w hq _ => by obtain ⟨rfl, rfl⟩ := hq; exact k)
theorem J_cSv2 {index maxLy : Nat} {y : MethodName} {bytes : ByteArray} {rety : Option FieldType} {Ry : Room} {v1 v2 : Value} {w1 : jW} (hd : decode cc pc = .ok (.invokestatic index, 3)) (hM : JMet l cl Ns (.code y bytes maxLy rety :: Ts) y Ry [v1, v2] ws (fun v w => v = none ∧ w = w1)) (hcode : Cond.code y bytes maxLy rety ∈ Ts) (hgood : ∀ w ∈ Ts, (w.onTables && w.keeps) = true ∨ ∃ ty, w = .arrayClass ty) (hrc : Ry.cells = 0) (hrs : Ry.slots = 0) (hini : Cond.initialized y.cls ∈ Ts) (hli : Cond.methodLink own index y ∈ Ts) (hdy : y.cls ≠ "java/lang/invoke/MethodHandle" ∧ y.cls ≠ "java/lang/invoke/VarHandle" ∧ (parseMethodDescriptor y.desc).map (fun d => d.parameters.length) = some 2) (hR : Ry.frames + 1 ≤ R.frames ∧ 8 + (maxLy + 11) + Ry.locals ≤ R.locals) (hsum : (st.map fun v => v.category).sum ≤ 8) (hst : Cond.static y ∈ Ts)
    (k : JW l cl Ns Ts own cc nL ret R (pc + 3) ls st w1 Q) : JW l cl Ns Ts own cc nL ret R pc ls (v2 :: v1 :: st) ws Q :=
  J_callS (As := [v1, v2]) (rest := st) hd hM hcode hgood hrc hrs hini hli hdy hR rfl hsum hst (fun r0 w hq _ => by obtain ⟨rfl, rfl⟩ := hq; exact k)
theorem J_cSi3 {index maxLy : Nat} {y : MethodName} {bytes : ByteArray} {rety : Option FieldType} {Ry : Room} {r : Int32} {v1 v2 v3 : Value} {w1 : jW} (hd : decode cc pc = .ok (.invokestatic index, 3)) (hM : JMet l cl Ns (.code y bytes maxLy rety :: Ts) y Ry [v1, v2, v3] ws (fun v w => v = some (.int r) ∧ w = w1)) (hcode : Cond.code y bytes maxLy rety ∈ Ts) (hgood : ∀ w ∈ Ts, (w.onTables && w.keeps) = true ∨ ∃ ty, w = .arrayClass ty) (hrc : Ry.cells = 0) (hrs : Ry.slots = 0) (hini : Cond.initialized y.cls ∈ Ts) (hli : Cond.methodLink own index y ∈ Ts) (hdy : y.cls ≠ "java/lang/invoke/MethodHandle" ∧ y.cls ≠ "java/lang/invoke/VarHandle" ∧ (parseMethodDescriptor y.desc).map (fun d => d.parameters.length) = some 3) (hR : Ry.frames + 1 ≤ R.frames ∧ 8 + (maxLy + 11) + Ry.locals ≤ R.locals) (hsum : (st.map fun v => v.category).sum ≤ 8) (hst : Cond.static y ∈ Ts)
    (k : JW l cl Ns Ts own cc nL ret R (pc + 3) ls (.int r :: st) w1 Q) : JW l cl Ns Ts own cc nL ret R pc ls (v3 :: v2 :: v1 :: st) ws Q :=
  J_callS (As := [v1, v2, v3]) (rest := st) hd hM hcode hgood hrc hrs hini hli hdy hR rfl hsum hst (fun r0 w hq _ => by obtain ⟨rfl, rfl⟩ := hq; exact k)
theorem J_cSv3 {index maxLy : Nat} {y : MethodName} {bytes : ByteArray} {rety : Option FieldType} {Ry : Room} {v1 v2 v3 : Value} {w1 : jW} (hd : decode cc pc = .ok (.invokestatic index, 3)) (hM : JMet l cl Ns (.code y bytes maxLy rety :: Ts) y Ry [v1, v2, v3] ws (fun v w => v = none ∧ w = w1)) (hcode : Cond.code y bytes maxLy rety ∈ Ts) (hgood : ∀ w ∈ Ts, (w.onTables && w.keeps) = true ∨ ∃ ty, w = .arrayClass ty) (hrc : Ry.cells = 0) (hrs : Ry.slots = 0) (hini : Cond.initialized y.cls ∈ Ts) (hli : Cond.methodLink own index y ∈ Ts) (hdy : y.cls ≠ "java/lang/invoke/MethodHandle" ∧ y.cls ≠ "java/lang/invoke/VarHandle" ∧ (parseMethodDescriptor y.desc).map (fun d => d.parameters.length) = some 3) (hR : Ry.frames + 1 ≤ R.frames ∧ 8 + (maxLy + 11) + Ry.locals ≤ R.locals) (hsum : (st.map fun v => v.category).sum ≤ 8) (hst : Cond.static y ∈ Ts)
    (k : JW l cl Ns Ts own cc nL ret R (pc + 3) ls st w1 Q) : JW l cl Ns Ts own cc nL ret R pc ls (v3 :: v2 :: v1 :: st) ws Q :=
  J_callS (As := [v1, v2, v3]) (rest := st) hd hM hcode hgood hrc hrs hini hli hdy hR rfl hsum hst (fun r0 w hq _ => by obtain ⟨rfl, rfl⟩ := hq; exact k)
theorem J_cSi0N {index maxLy : Nat} {y : MethodName} {bytes : ByteArray} {rety : Option FieldType} {Ry : Room} {host : String} {r : Int32} {w1 : jW} (hd : decode cc pc = .ok (.invokestatic index, 3)) (hM : JMet l cl Ns (.code y bytes maxLy rety :: Ts) y Ry [] ws (fun v w => v = some (.int r) ∧ w = w1)) (hcode : Cond.code y bytes maxLy rety ∈ Ts) (hgood : ∀ w ∈ Ts, (w.onTables && w.keeps) = true ∨ ∃ ty, w = .arrayClass ty) (hrc : Ry.cells = 0) (hrs : Ry.slots = 0) (hini : Cond.initialized y.cls ∈ Ts) (hli : ((own, index, y, host) : String × Nat × MethodName × String) ∈ Ns) (hdy : y.cls ≠ "java/lang/invoke/MethodHandle" ∧ y.cls ≠ "java/lang/invoke/VarHandle" ∧ (parseMethodDescriptor y.desc).map (fun d => d.parameters.length) = some 0) (hR : Ry.frames + 1 ≤ R.frames ∧ 8 + (maxLy + 11) + Ry.locals ≤ R.locals) (hsum : (st.map fun v => v.category).sum ≤ 8) (hst : Cond.static y ∈ Ts)
    (k : JW l cl Ns Ts own cc nL ret R (pc + 3) ls (.int r :: st) w1 Q) : JW l cl Ns Ts own cc nL ret R pc ls (st) ws Q :=
  J_callSN (As := []) (rest := st) hd hM hcode hgood hrc hrs hini hli hdy hR rfl hsum hst (fun r0 w hq _ => by obtain ⟨rfl, rfl⟩ := hq; exact k)
theorem J_cSv0N {index maxLy : Nat} {y : MethodName} {bytes : ByteArray} {rety : Option FieldType} {Ry : Room} {host : String} {w1 : jW} (hd : decode cc pc = .ok (.invokestatic index, 3)) (hM : JMet l cl Ns (.code y bytes maxLy rety :: Ts) y Ry [] ws (fun v w => v = none ∧ w = w1)) (hcode : Cond.code y bytes maxLy rety ∈ Ts) (hgood : ∀ w ∈ Ts, (w.onTables && w.keeps) = true ∨ ∃ ty, w = .arrayClass ty) (hrc : Ry.cells = 0) (hrs : Ry.slots = 0) (hini : Cond.initialized y.cls ∈ Ts) (hli : ((own, index, y, host) : String × Nat × MethodName × String) ∈ Ns) (hdy : y.cls ≠ "java/lang/invoke/MethodHandle" ∧ y.cls ≠ "java/lang/invoke/VarHandle" ∧ (parseMethodDescriptor y.desc).map (fun d => d.parameters.length) = some 0) (hR : Ry.frames + 1 ≤ R.frames ∧ 8 + (maxLy + 11) + Ry.locals ≤ R.locals) (hsum : (st.map fun v => v.category).sum ≤ 8) (hst : Cond.static y ∈ Ts)
    (k : JW l cl Ns Ts own cc nL ret R (pc + 3) ls st w1 Q) : JW l cl Ns Ts own cc nL ret R pc ls (st) ws Q :=
  J_callSN (As := []) (rest := st) hd hM hcode hgood hrc hrs hini hli hdy hR rfl hsum hst (fun r0 w hq _ => by obtain ⟨rfl, rfl⟩ := hq; exact k)
theorem J_cSi1N {index maxLy : Nat} {y : MethodName} {bytes : ByteArray} {rety : Option FieldType} {Ry : Room} {host : String} {r : Int32} {v1 : Value} {w1 : jW} (hd : decode cc pc = .ok (.invokestatic index, 3)) (hM : JMet l cl Ns (.code y bytes maxLy rety :: Ts) y Ry [v1] ws (fun v w => v = some (.int r) ∧ w = w1)) (hcode : Cond.code y bytes maxLy rety ∈ Ts) (hgood : ∀ w ∈ Ts, (w.onTables && w.keeps) = true ∨ ∃ ty, w = .arrayClass ty) (hrc : Ry.cells = 0) (hrs : Ry.slots = 0) (hini : Cond.initialized y.cls ∈ Ts) (hli : ((own, index, y, host) : String × Nat × MethodName × String) ∈ Ns) (hdy : y.cls ≠ "java/lang/invoke/MethodHandle" ∧ y.cls ≠ "java/lang/invoke/VarHandle" ∧ (parseMethodDescriptor y.desc).map (fun d => d.parameters.length) = some 1) (hR : Ry.frames + 1 ≤ R.frames ∧ 8 + (maxLy + 11) + Ry.locals ≤ R.locals) (hsum : (st.map fun v => v.category).sum ≤ 8) (hst : Cond.static y ∈ Ts)
    (k : JW l cl Ns Ts own cc nL ret R (pc + 3) ls (.int r :: st) w1 Q) : JW l cl Ns Ts own cc nL ret R pc ls (v1 :: st) ws Q :=
  J_callSN (As := [v1]) (rest := st) hd hM hcode hgood hrc hrs hini hli hdy hR rfl hsum hst (fun r0 w hq _ => by obtain ⟨rfl, rfl⟩ := hq; exact k)
theorem J_cSv1N {index maxLy : Nat} {y : MethodName} {bytes : ByteArray} {rety : Option FieldType} {Ry : Room} {host : String} {v1 : Value} {w1 : jW} (hd : decode cc pc = .ok (.invokestatic index, 3)) (hM : JMet l cl Ns (.code y bytes maxLy rety :: Ts) y Ry [v1] ws (fun v w => v = none ∧ w = w1)) (hcode : Cond.code y bytes maxLy rety ∈ Ts) (hgood : ∀ w ∈ Ts, (w.onTables && w.keeps) = true ∨ ∃ ty, w = .arrayClass ty) (hrc : Ry.cells = 0) (hrs : Ry.slots = 0) (hini : Cond.initialized y.cls ∈ Ts) (hli : ((own, index, y, host) : String × Nat × MethodName × String) ∈ Ns) (hdy : y.cls ≠ "java/lang/invoke/MethodHandle" ∧ y.cls ≠ "java/lang/invoke/VarHandle" ∧ (parseMethodDescriptor y.desc).map (fun d => d.parameters.length) = some 1) (hR : Ry.frames + 1 ≤ R.frames ∧ 8 + (maxLy + 11) + Ry.locals ≤ R.locals) (hsum : (st.map fun v => v.category).sum ≤ 8) (hst : Cond.static y ∈ Ts)
    (k : JW l cl Ns Ts own cc nL ret R (pc + 3) ls st w1 Q) : JW l cl Ns Ts own cc nL ret R pc ls (v1 :: st) ws Q :=
  J_callSN (As := [v1]) (rest := st) hd hM hcode hgood hrc hrs hini hli hdy hR rfl hsum hst (fun r0 w hq _ => by obtain ⟨rfl, rfl⟩ := hq; exact k)
theorem J_cSi2N {index maxLy : Nat} {y : MethodName} {bytes : ByteArray} {rety : Option FieldType} {Ry : Room} {host : String} {r : Int32} {v1 v2 : Value} {w1 : jW} (hd : decode cc pc = .ok (.invokestatic index, 3)) (hM : JMet l cl Ns (.code y bytes maxLy rety :: Ts) y Ry [v1, v2] ws (fun v w => v = some (.int r) ∧ w = w1)) (hcode : Cond.code y bytes maxLy rety ∈ Ts) (hgood : ∀ w ∈ Ts, (w.onTables && w.keeps) = true ∨ ∃ ty, w = .arrayClass ty) (hrc : Ry.cells = 0) (hrs : Ry.slots = 0) (hini : Cond.initialized y.cls ∈ Ts) (hli : ((own, index, y, host) : String × Nat × MethodName × String) ∈ Ns) (hdy : y.cls ≠ "java/lang/invoke/MethodHandle" ∧ y.cls ≠ "java/lang/invoke/VarHandle" ∧ (parseMethodDescriptor y.desc).map (fun d => d.parameters.length) = some 2) (hR : Ry.frames + 1 ≤ R.frames ∧ 8 + (maxLy + 11) + Ry.locals ≤ R.locals) (hsum : (st.map fun v => v.category).sum ≤ 8) (hst : Cond.static y ∈ Ts)
    (k : JW l cl Ns Ts own cc nL ret R (pc + 3) ls (.int r :: st) w1 Q) : JW l cl Ns Ts own cc nL ret R pc ls (v2 :: v1 :: st) ws Q :=
  J_callSN (As := [v1, v2]) (rest := st) hd hM hcode hgood hrc hrs hini hli hdy hR rfl hsum hst (fun r0 w hq _ => by obtain ⟨rfl, rfl⟩ := hq; exact k)
theorem J_cSv2N {index maxLy : Nat} {y : MethodName} {bytes : ByteArray} {rety : Option FieldType} {Ry : Room} {host : String} {v1 v2 : Value} {w1 : jW} (hd : decode cc pc = .ok (.invokestatic index, 3)) (hM : JMet l cl Ns (.code y bytes maxLy rety :: Ts) y Ry [v1, v2] ws (fun v w => v = none ∧ w = w1)) (hcode : Cond.code y bytes maxLy rety ∈ Ts) (hgood : ∀ w ∈ Ts, (w.onTables && w.keeps) = true ∨ ∃ ty, w = .arrayClass ty) (hrc : Ry.cells = 0) (hrs : Ry.slots = 0) (hini : Cond.initialized y.cls ∈ Ts) (hli : ((own, index, y, host) : String × Nat × MethodName × String) ∈ Ns) (hdy : y.cls ≠ "java/lang/invoke/MethodHandle" ∧ y.cls ≠ "java/lang/invoke/VarHandle" ∧ (parseMethodDescriptor y.desc).map (fun d => d.parameters.length) = some 2) (hR : Ry.frames + 1 ≤ R.frames ∧ 8 + (maxLy + 11) + Ry.locals ≤ R.locals) (hsum : (st.map fun v => v.category).sum ≤ 8) (hst : Cond.static y ∈ Ts)
    (k : JW l cl Ns Ts own cc nL ret R (pc + 3) ls st w1 Q) : JW l cl Ns Ts own cc nL ret R pc ls (v2 :: v1 :: st) ws Q :=
  J_callSN (As := [v1, v2]) (rest := st) hd hM hcode hgood hrc hrs hini hli hdy hR rfl hsum hst (fun r0 w hq _ => by obtain ⟨rfl, rfl⟩ := hq; exact k)
theorem J_cSi3N {index maxLy : Nat} {y : MethodName} {bytes : ByteArray} {rety : Option FieldType} {Ry : Room} {host : String} {r : Int32} {v1 v2 v3 : Value} {w1 : jW} (hd : decode cc pc = .ok (.invokestatic index, 3)) (hM : JMet l cl Ns (.code y bytes maxLy rety :: Ts) y Ry [v1, v2, v3] ws (fun v w => v = some (.int r) ∧ w = w1)) (hcode : Cond.code y bytes maxLy rety ∈ Ts) (hgood : ∀ w ∈ Ts, (w.onTables && w.keeps) = true ∨ ∃ ty, w = .arrayClass ty) (hrc : Ry.cells = 0) (hrs : Ry.slots = 0) (hini : Cond.initialized y.cls ∈ Ts) (hli : ((own, index, y, host) : String × Nat × MethodName × String) ∈ Ns) (hdy : y.cls ≠ "java/lang/invoke/MethodHandle" ∧ y.cls ≠ "java/lang/invoke/VarHandle" ∧ (parseMethodDescriptor y.desc).map (fun d => d.parameters.length) = some 3) (hR : Ry.frames + 1 ≤ R.frames ∧ 8 + (maxLy + 11) + Ry.locals ≤ R.locals) (hsum : (st.map fun v => v.category).sum ≤ 8) (hst : Cond.static y ∈ Ts)
    (k : JW l cl Ns Ts own cc nL ret R (pc + 3) ls (.int r :: st) w1 Q) : JW l cl Ns Ts own cc nL ret R pc ls (v3 :: v2 :: v1 :: st) ws Q :=
  J_callSN (As := [v1, v2, v3]) (rest := st) hd hM hcode hgood hrc hrs hini hli hdy hR rfl hsum hst (fun r0 w hq _ => by obtain ⟨rfl, rfl⟩ := hq; exact k)
theorem J_cSv3N {index maxLy : Nat} {y : MethodName} {bytes : ByteArray} {rety : Option FieldType} {Ry : Room} {host : String} {v1 v2 v3 : Value} {w1 : jW} (hd : decode cc pc = .ok (.invokestatic index, 3)) (hM : JMet l cl Ns (.code y bytes maxLy rety :: Ts) y Ry [v1, v2, v3] ws (fun v w => v = none ∧ w = w1)) (hcode : Cond.code y bytes maxLy rety ∈ Ts) (hgood : ∀ w ∈ Ts, (w.onTables && w.keeps) = true ∨ ∃ ty, w = .arrayClass ty) (hrc : Ry.cells = 0) (hrs : Ry.slots = 0) (hini : Cond.initialized y.cls ∈ Ts) (hli : ((own, index, y, host) : String × Nat × MethodName × String) ∈ Ns) (hdy : y.cls ≠ "java/lang/invoke/MethodHandle" ∧ y.cls ≠ "java/lang/invoke/VarHandle" ∧ (parseMethodDescriptor y.desc).map (fun d => d.parameters.length) = some 3) (hR : Ry.frames + 1 ≤ R.frames ∧ 8 + (maxLy + 11) + Ry.locals ≤ R.locals) (hsum : (st.map fun v => v.category).sum ≤ 8) (hst : Cond.static y ∈ Ts)
    (k : JW l cl Ns Ts own cc nL ret R (pc + 3) ls st w1 Q) : JW l cl Ns Ts own cc nL ret R pc ls (v3 :: v2 :: v1 :: st) ws Q :=
  J_callSN (As := [v1, v2, v3]) (rest := st) hd hM hcode hgood hrc hrs hini hli hdy hR rfl hsum hst (fun r0 w hq _ => by obtain ⟨rfl, rfl⟩ := hq; exact k)
theorem J_cVi0 {index maxLy : Nat} {y : MethodName} {bytes : ByteArray} {rety : Option FieldType} {Ry : Room} {r : Int32} {b ci N : Nat} {fs : List Value} {T : u_T} {w1 : jW} (hd : decode cc pc = .ok (.invokevirtual index, 3)) (hM : JMet l cl Ns (.code y bytes maxLy rety :: Ts) y Ry (.ref b :: []) ws (fun v w => v = some (.int r) ∧ w = w1)) (he : ws[b]? = some (.inr (ci, fs))) (hc : cl[ci]? = some (y.cls, T, N)) (hcode : Cond.code y bytes maxLy rety ∈ Ts) (hgood : ∀ w ∈ Ts, (w.onTables && w.keeps) = true ∨ ∃ ty, w = .arrayClass ty) (hrc : Ry.cells = 0) (hrs : Ry.slots = 0) (hini : Cond.initialized y.cls ∈ Ts) (hli : Cond.methodLink own index y ∈ Ts) (hdy : y.cls ≠ "java/lang/invoke/MethodHandle" ∧ y.cls ≠ "java/lang/invoke/VarHandle" ∧ (parseMethodDescriptor y.desc).map (fun d => d.parameters.length) = some 0) (hR : Ry.frames + 1 ≤ R.frames ∧ 8 + (maxLy + 11) + Ry.locals ≤ R.locals) (hsum : (st.map fun v => v.category).sum ≤ 8) (hst : Cond.instanceMethod y ∈ Ts) (hsel : Cond.selects y.cls y y ∈ Ts)
    (k : JW l cl Ns Ts own cc nL ret R (pc + 3) ls (.int r :: st) w1 Q) : JW l cl Ns Ts own cc nL ret R pc ls (.ref b :: st) ws Q :=
  J_callV (As := []) (rest := st) hd hM he hc hcode hgood hrc hrs hini hli hdy hR rfl hsum hst hsel (fun r0 w hq _ => by obtain ⟨rfl, rfl⟩ := hq; exact k)
theorem J_cVv0 {index maxLy : Nat} {y : MethodName} {bytes : ByteArray} {rety : Option FieldType} {Ry : Room} {b ci N : Nat} {fs : List Value} {T : u_T} {w1 : jW} (hd : decode cc pc = .ok (.invokevirtual index, 3)) (hM : JMet l cl Ns (.code y bytes maxLy rety :: Ts) y Ry (.ref b :: []) ws (fun v w => v = none ∧ w = w1)) (he : ws[b]? = some (.inr (ci, fs))) (hc : cl[ci]? = some (y.cls, T, N)) (hcode : Cond.code y bytes maxLy rety ∈ Ts) (hgood : ∀ w ∈ Ts, (w.onTables && w.keeps) = true ∨ ∃ ty, w = .arrayClass ty) (hrc : Ry.cells = 0) (hrs : Ry.slots = 0) (hini : Cond.initialized y.cls ∈ Ts) (hli : Cond.methodLink own index y ∈ Ts) (hdy : y.cls ≠ "java/lang/invoke/MethodHandle" ∧ y.cls ≠ "java/lang/invoke/VarHandle" ∧ (parseMethodDescriptor y.desc).map (fun d => d.parameters.length) = some 0) (hR : Ry.frames + 1 ≤ R.frames ∧ 8 + (maxLy + 11) + Ry.locals ≤ R.locals) (hsum : (st.map fun v => v.category).sum ≤ 8) (hst : Cond.instanceMethod y ∈ Ts) (hsel : Cond.selects y.cls y y ∈ Ts)
    (k : JW l cl Ns Ts own cc nL ret R (pc + 3) ls st w1 Q) : JW l cl Ns Ts own cc nL ret R pc ls (.ref b :: st) ws Q :=
  J_callV (As := []) (rest := st) hd hM he hc hcode hgood hrc hrs hini hli hdy hR rfl hsum hst hsel (fun r0 w hq _ => by obtain ⟨rfl, rfl⟩ := hq; exact k)
theorem J_cVi1 {index maxLy : Nat} {y : MethodName} {bytes : ByteArray} {rety : Option FieldType} {Ry : Room} {r : Int32} {v1 : Value} {b ci N : Nat} {fs : List Value} {T : u_T} {w1 : jW} (hd : decode cc pc = .ok (.invokevirtual index, 3)) (hM : JMet l cl Ns (.code y bytes maxLy rety :: Ts) y Ry (.ref b :: [v1]) ws (fun v w => v = some (.int r) ∧ w = w1)) (he : ws[b]? = some (.inr (ci, fs))) (hc : cl[ci]? = some (y.cls, T, N)) (hcode : Cond.code y bytes maxLy rety ∈ Ts) (hgood : ∀ w ∈ Ts, (w.onTables && w.keeps) = true ∨ ∃ ty, w = .arrayClass ty) (hrc : Ry.cells = 0) (hrs : Ry.slots = 0) (hini : Cond.initialized y.cls ∈ Ts) (hli : Cond.methodLink own index y ∈ Ts) (hdy : y.cls ≠ "java/lang/invoke/MethodHandle" ∧ y.cls ≠ "java/lang/invoke/VarHandle" ∧ (parseMethodDescriptor y.desc).map (fun d => d.parameters.length) = some 1) (hR : Ry.frames + 1 ≤ R.frames ∧ 8 + (maxLy + 11) + Ry.locals ≤ R.locals) (hsum : (st.map fun v => v.category).sum ≤ 8) (hst : Cond.instanceMethod y ∈ Ts) (hsel : Cond.selects y.cls y y ∈ Ts)
    (k : JW l cl Ns Ts own cc nL ret R (pc + 3) ls (.int r :: st) w1 Q) : JW l cl Ns Ts own cc nL ret R pc ls (v1 :: .ref b :: st) ws Q :=
  J_callV (As := [v1]) (rest := st) hd hM he hc hcode hgood hrc hrs hini hli hdy hR rfl hsum hst hsel (fun r0 w hq _ => by obtain ⟨rfl, rfl⟩ := hq; exact k)
theorem J_cVv1 {index maxLy : Nat} {y : MethodName} {bytes : ByteArray} {rety : Option FieldType} {Ry : Room} {v1 : Value} {b ci N : Nat} {fs : List Value} {T : u_T} {w1 : jW} (hd : decode cc pc = .ok (.invokevirtual index, 3)) (hM : JMet l cl Ns (.code y bytes maxLy rety :: Ts) y Ry (.ref b :: [v1]) ws (fun v w => v = none ∧ w = w1)) (he : ws[b]? = some (.inr (ci, fs))) (hc : cl[ci]? = some (y.cls, T, N)) (hcode : Cond.code y bytes maxLy rety ∈ Ts) (hgood : ∀ w ∈ Ts, (w.onTables && w.keeps) = true ∨ ∃ ty, w = .arrayClass ty) (hrc : Ry.cells = 0) (hrs : Ry.slots = 0) (hini : Cond.initialized y.cls ∈ Ts) (hli : Cond.methodLink own index y ∈ Ts) (hdy : y.cls ≠ "java/lang/invoke/MethodHandle" ∧ y.cls ≠ "java/lang/invoke/VarHandle" ∧ (parseMethodDescriptor y.desc).map (fun d => d.parameters.length) = some 1) (hR : Ry.frames + 1 ≤ R.frames ∧ 8 + (maxLy + 11) + Ry.locals ≤ R.locals) (hsum : (st.map fun v => v.category).sum ≤ 8) (hst : Cond.instanceMethod y ∈ Ts) (hsel : Cond.selects y.cls y y ∈ Ts)
    (k : JW l cl Ns Ts own cc nL ret R (pc + 3) ls st w1 Q) : JW l cl Ns Ts own cc nL ret R pc ls (v1 :: .ref b :: st) ws Q :=
  J_callV (As := [v1]) (rest := st) hd hM he hc hcode hgood hrc hrs hini hli hdy hR rfl hsum hst hsel (fun r0 w hq _ => by obtain ⟨rfl, rfl⟩ := hq; exact k)
theorem J_cVi2 {index maxLy : Nat} {y : MethodName} {bytes : ByteArray} {rety : Option FieldType} {Ry : Room} {r : Int32} {v1 v2 : Value} {b ci N : Nat} {fs : List Value} {T : u_T} {w1 : jW} (hd : decode cc pc = .ok (.invokevirtual index, 3)) (hM : JMet l cl Ns (.code y bytes maxLy rety :: Ts) y Ry (.ref b :: [v1, v2]) ws (fun v w => v = some (.int r) ∧ w = w1)) (he : ws[b]? = some (.inr (ci, fs))) (hc : cl[ci]? = some (y.cls, T, N)) (hcode : Cond.code y bytes maxLy rety ∈ Ts) (hgood : ∀ w ∈ Ts, (w.onTables && w.keeps) = true ∨ ∃ ty, w = .arrayClass ty) (hrc : Ry.cells = 0) (hrs : Ry.slots = 0) (hini : Cond.initialized y.cls ∈ Ts) (hli : Cond.methodLink own index y ∈ Ts) (hdy : y.cls ≠ "java/lang/invoke/MethodHandle" ∧ y.cls ≠ "java/lang/invoke/VarHandle" ∧ (parseMethodDescriptor y.desc).map (fun d => d.parameters.length) = some 2) (hR : Ry.frames + 1 ≤ R.frames ∧ 8 + (maxLy + 11) + Ry.locals ≤ R.locals) (hsum : (st.map fun v => v.category).sum ≤ 8) (hst : Cond.instanceMethod y ∈ Ts) (hsel : Cond.selects y.cls y y ∈ Ts)
    (k : JW l cl Ns Ts own cc nL ret R (pc + 3) ls (.int r :: st) w1 Q) : JW l cl Ns Ts own cc nL ret R pc ls (v2 :: v1 :: .ref b :: st) ws Q :=
  J_callV (As := [v1, v2]) (rest := st) hd hM he hc hcode hgood hrc hrs hini hli hdy hR rfl hsum hst hsel (fun r0 w hq _ => by obtain ⟨rfl, rfl⟩ := hq; exact k)
theorem J_cVv2 {index maxLy : Nat} {y : MethodName} {bytes : ByteArray} {rety : Option FieldType} {Ry : Room} {v1 v2 : Value} {b ci N : Nat} {fs : List Value} {T : u_T} {w1 : jW} (hd : decode cc pc = .ok (.invokevirtual index, 3)) (hM : JMet l cl Ns (.code y bytes maxLy rety :: Ts) y Ry (.ref b :: [v1, v2]) ws (fun v w => v = none ∧ w = w1)) (he : ws[b]? = some (.inr (ci, fs))) (hc : cl[ci]? = some (y.cls, T, N)) (hcode : Cond.code y bytes maxLy rety ∈ Ts) (hgood : ∀ w ∈ Ts, (w.onTables && w.keeps) = true ∨ ∃ ty, w = .arrayClass ty) (hrc : Ry.cells = 0) (hrs : Ry.slots = 0) (hini : Cond.initialized y.cls ∈ Ts) (hli : Cond.methodLink own index y ∈ Ts) (hdy : y.cls ≠ "java/lang/invoke/MethodHandle" ∧ y.cls ≠ "java/lang/invoke/VarHandle" ∧ (parseMethodDescriptor y.desc).map (fun d => d.parameters.length) = some 2) (hR : Ry.frames + 1 ≤ R.frames ∧ 8 + (maxLy + 11) + Ry.locals ≤ R.locals) (hsum : (st.map fun v => v.category).sum ≤ 8) (hst : Cond.instanceMethod y ∈ Ts) (hsel : Cond.selects y.cls y y ∈ Ts)
    (k : JW l cl Ns Ts own cc nL ret R (pc + 3) ls st w1 Q) : JW l cl Ns Ts own cc nL ret R pc ls (v2 :: v1 :: .ref b :: st) ws Q :=
  J_callV (As := [v1, v2]) (rest := st) hd hM he hc hcode hgood hrc hrs hini hli hdy hR rfl hsum hst hsel (fun r0 w hq _ => by obtain ⟨rfl, rfl⟩ := hq; exact k)
theorem J_cVi3 {index maxLy : Nat} {y : MethodName} {bytes : ByteArray} {rety : Option FieldType} {Ry : Room} {r : Int32} {v1 v2 v3 : Value} {b ci N : Nat} {fs : List Value} {T : u_T} {w1 : jW} (hd : decode cc pc = .ok (.invokevirtual index, 3)) (hM : JMet l cl Ns (.code y bytes maxLy rety :: Ts) y Ry (.ref b :: [v1, v2, v3]) ws (fun v w => v = some (.int r) ∧ w = w1)) (he : ws[b]? = some (.inr (ci, fs))) (hc : cl[ci]? = some (y.cls, T, N)) (hcode : Cond.code y bytes maxLy rety ∈ Ts) (hgood : ∀ w ∈ Ts, (w.onTables && w.keeps) = true ∨ ∃ ty, w = .arrayClass ty) (hrc : Ry.cells = 0) (hrs : Ry.slots = 0) (hini : Cond.initialized y.cls ∈ Ts) (hli : Cond.methodLink own index y ∈ Ts) (hdy : y.cls ≠ "java/lang/invoke/MethodHandle" ∧ y.cls ≠ "java/lang/invoke/VarHandle" ∧ (parseMethodDescriptor y.desc).map (fun d => d.parameters.length) = some 3) (hR : Ry.frames + 1 ≤ R.frames ∧ 8 + (maxLy + 11) + Ry.locals ≤ R.locals) (hsum : (st.map fun v => v.category).sum ≤ 8) (hst : Cond.instanceMethod y ∈ Ts) (hsel : Cond.selects y.cls y y ∈ Ts)
    (k : JW l cl Ns Ts own cc nL ret R (pc + 3) ls (.int r :: st) w1 Q) : JW l cl Ns Ts own cc nL ret R pc ls (v3 :: v2 :: v1 :: .ref b :: st) ws Q :=
  J_callV (As := [v1, v2, v3]) (rest := st) hd hM he hc hcode hgood hrc hrs hini hli hdy hR rfl hsum hst hsel (fun r0 w hq _ => by obtain ⟨rfl, rfl⟩ := hq; exact k)
theorem J_cVv3 {index maxLy : Nat} {y : MethodName} {bytes : ByteArray} {rety : Option FieldType} {Ry : Room} {v1 v2 v3 : Value} {b ci N : Nat} {fs : List Value} {T : u_T} {w1 : jW} (hd : decode cc pc = .ok (.invokevirtual index, 3)) (hM : JMet l cl Ns (.code y bytes maxLy rety :: Ts) y Ry (.ref b :: [v1, v2, v3]) ws (fun v w => v = none ∧ w = w1)) (he : ws[b]? = some (.inr (ci, fs))) (hc : cl[ci]? = some (y.cls, T, N)) (hcode : Cond.code y bytes maxLy rety ∈ Ts) (hgood : ∀ w ∈ Ts, (w.onTables && w.keeps) = true ∨ ∃ ty, w = .arrayClass ty) (hrc : Ry.cells = 0) (hrs : Ry.slots = 0) (hini : Cond.initialized y.cls ∈ Ts) (hli : Cond.methodLink own index y ∈ Ts) (hdy : y.cls ≠ "java/lang/invoke/MethodHandle" ∧ y.cls ≠ "java/lang/invoke/VarHandle" ∧ (parseMethodDescriptor y.desc).map (fun d => d.parameters.length) = some 3) (hR : Ry.frames + 1 ≤ R.frames ∧ 8 + (maxLy + 11) + Ry.locals ≤ R.locals) (hsum : (st.map fun v => v.category).sum ≤ 8) (hst : Cond.instanceMethod y ∈ Ts) (hsel : Cond.selects y.cls y y ∈ Ts)
    (k : JW l cl Ns Ts own cc nL ret R (pc + 3) ls st w1 Q) : JW l cl Ns Ts own cc nL ret R pc ls (v3 :: v2 :: v1 :: .ref b :: st) ws Q :=
  J_callV (As := [v1, v2, v3]) (rest := st) hd hM he hc hcode hgood hrc hrs hini hli hdy hR rfl hsum hst hsel (fun r0 w hq _ => by obtain ⟨rfl, rfl⟩ := hq; exact k)
theorem J_cVi0N {index maxLy : Nat} {y : MethodName} {bytes : ByteArray} {rety : Option FieldType} {Ry : Room} {host : String} {r : Int32} {b ci N : Nat} {fs : List Value} {T : u_T} {w1 : jW} (hd : decode cc pc = .ok (.invokevirtual index, 3)) (hM : JMet l cl Ns (.code y bytes maxLy rety :: Ts) y Ry (.ref b :: []) ws (fun v w => v = some (.int r) ∧ w = w1)) (he : ws[b]? = some (.inr (ci, fs))) (hc : cl[ci]? = some (y.cls, T, N)) (hcode : Cond.code y bytes maxLy rety ∈ Ts) (hgood : ∀ w ∈ Ts, (w.onTables && w.keeps) = true ∨ ∃ ty, w = .arrayClass ty) (hrc : Ry.cells = 0) (hrs : Ry.slots = 0) (hini : Cond.initialized y.cls ∈ Ts) (hli : ((own, index, y, host) : String × Nat × MethodName × String) ∈ Ns) (hdy : y.cls ≠ "java/lang/invoke/MethodHandle" ∧ y.cls ≠ "java/lang/invoke/VarHandle" ∧ (parseMethodDescriptor y.desc).map (fun d => d.parameters.length) = some 0) (hR : Ry.frames + 1 ≤ R.frames ∧ 8 + (maxLy + 11) + Ry.locals ≤ R.locals) (hsum : (st.map fun v => v.category).sum ≤ 8) (hst : Cond.instanceMethod y ∈ Ts) (hsel : Cond.selects y.cls y y ∈ Ts)
    (k : JW l cl Ns Ts own cc nL ret R (pc + 3) ls (.int r :: st) w1 Q) : JW l cl Ns Ts own cc nL ret R pc ls (.ref b :: st) ws Q :=
  J_callVN (As := []) (rest := st) hd hM he hc hcode hgood hrc hrs hini hli hdy hR rfl hsum hst hsel (fun r0 w hq _ => by obtain ⟨rfl, rfl⟩ := hq; exact k)
theorem J_cVv0N {index maxLy : Nat} {y : MethodName} {bytes : ByteArray} {rety : Option FieldType} {Ry : Room} {host : String} {b ci N : Nat} {fs : List Value} {T : u_T} {w1 : jW} (hd : decode cc pc = .ok (.invokevirtual index, 3)) (hM : JMet l cl Ns (.code y bytes maxLy rety :: Ts) y Ry (.ref b :: []) ws (fun v w => v = none ∧ w = w1)) (he : ws[b]? = some (.inr (ci, fs))) (hc : cl[ci]? = some (y.cls, T, N)) (hcode : Cond.code y bytes maxLy rety ∈ Ts) (hgood : ∀ w ∈ Ts, (w.onTables && w.keeps) = true ∨ ∃ ty, w = .arrayClass ty) (hrc : Ry.cells = 0) (hrs : Ry.slots = 0) (hini : Cond.initialized y.cls ∈ Ts) (hli : ((own, index, y, host) : String × Nat × MethodName × String) ∈ Ns) (hdy : y.cls ≠ "java/lang/invoke/MethodHandle" ∧ y.cls ≠ "java/lang/invoke/VarHandle" ∧ (parseMethodDescriptor y.desc).map (fun d => d.parameters.length) = some 0) (hR : Ry.frames + 1 ≤ R.frames ∧ 8 + (maxLy + 11) + Ry.locals ≤ R.locals) (hsum : (st.map fun v => v.category).sum ≤ 8) (hst : Cond.instanceMethod y ∈ Ts) (hsel : Cond.selects y.cls y y ∈ Ts)
    (k : JW l cl Ns Ts own cc nL ret R (pc + 3) ls st w1 Q) : JW l cl Ns Ts own cc nL ret R pc ls (.ref b :: st) ws Q :=
  J_callVN (As := []) (rest := st) hd hM he hc hcode hgood hrc hrs hini hli hdy hR rfl hsum hst hsel (fun r0 w hq _ => by obtain ⟨rfl, rfl⟩ := hq; exact k)
theorem J_cVi1N {index maxLy : Nat} {y : MethodName} {bytes : ByteArray} {rety : Option FieldType} {Ry : Room} {host : String} {r : Int32} {v1 : Value} {b ci N : Nat} {fs : List Value} {T : u_T} {w1 : jW} (hd : decode cc pc = .ok (.invokevirtual index, 3)) (hM : JMet l cl Ns (.code y bytes maxLy rety :: Ts) y Ry (.ref b :: [v1]) ws (fun v w => v = some (.int r) ∧ w = w1)) (he : ws[b]? = some (.inr (ci, fs))) (hc : cl[ci]? = some (y.cls, T, N)) (hcode : Cond.code y bytes maxLy rety ∈ Ts) (hgood : ∀ w ∈ Ts, (w.onTables && w.keeps) = true ∨ ∃ ty, w = .arrayClass ty) (hrc : Ry.cells = 0) (hrs : Ry.slots = 0) (hini : Cond.initialized y.cls ∈ Ts) (hli : ((own, index, y, host) : String × Nat × MethodName × String) ∈ Ns) (hdy : y.cls ≠ "java/lang/invoke/MethodHandle" ∧ y.cls ≠ "java/lang/invoke/VarHandle" ∧ (parseMethodDescriptor y.desc).map (fun d => d.parameters.length) = some 1) (hR : Ry.frames + 1 ≤ R.frames ∧ 8 + (maxLy + 11) + Ry.locals ≤ R.locals) (hsum : (st.map fun v => v.category).sum ≤ 8) (hst : Cond.instanceMethod y ∈ Ts) (hsel : Cond.selects y.cls y y ∈ Ts)
    (k : JW l cl Ns Ts own cc nL ret R (pc + 3) ls (.int r :: st) w1 Q) : JW l cl Ns Ts own cc nL ret R pc ls (v1 :: .ref b :: st) ws Q :=
  J_callVN (As := [v1]) (rest := st) hd hM he hc hcode hgood hrc hrs hini hli hdy hR rfl hsum hst hsel (fun r0 w hq _ => by obtain ⟨rfl, rfl⟩ := hq; exact k)
theorem J_cVv1N {index maxLy : Nat} {y : MethodName} {bytes : ByteArray} {rety : Option FieldType} {Ry : Room} {host : String} {v1 : Value} {b ci N : Nat} {fs : List Value} {T : u_T} {w1 : jW} (hd : decode cc pc = .ok (.invokevirtual index, 3)) (hM : JMet l cl Ns (.code y bytes maxLy rety :: Ts) y Ry (.ref b :: [v1]) ws (fun v w => v = none ∧ w = w1)) (he : ws[b]? = some (.inr (ci, fs))) (hc : cl[ci]? = some (y.cls, T, N)) (hcode : Cond.code y bytes maxLy rety ∈ Ts) (hgood : ∀ w ∈ Ts, (w.onTables && w.keeps) = true ∨ ∃ ty, w = .arrayClass ty) (hrc : Ry.cells = 0) (hrs : Ry.slots = 0) (hini : Cond.initialized y.cls ∈ Ts) (hli : ((own, index, y, host) : String × Nat × MethodName × String) ∈ Ns) (hdy : y.cls ≠ "java/lang/invoke/MethodHandle" ∧ y.cls ≠ "java/lang/invoke/VarHandle" ∧ (parseMethodDescriptor y.desc).map (fun d => d.parameters.length) = some 1) (hR : Ry.frames + 1 ≤ R.frames ∧ 8 + (maxLy + 11) + Ry.locals ≤ R.locals) (hsum : (st.map fun v => v.category).sum ≤ 8) (hst : Cond.instanceMethod y ∈ Ts) (hsel : Cond.selects y.cls y y ∈ Ts)
    (k : JW l cl Ns Ts own cc nL ret R (pc + 3) ls st w1 Q) : JW l cl Ns Ts own cc nL ret R pc ls (v1 :: .ref b :: st) ws Q :=
  J_callVN (As := [v1]) (rest := st) hd hM he hc hcode hgood hrc hrs hini hli hdy hR rfl hsum hst hsel (fun r0 w hq _ => by obtain ⟨rfl, rfl⟩ := hq; exact k)
theorem J_cVi2N {index maxLy : Nat} {y : MethodName} {bytes : ByteArray} {rety : Option FieldType} {Ry : Room} {host : String} {r : Int32} {v1 v2 : Value} {b ci N : Nat} {fs : List Value} {T : u_T} {w1 : jW} (hd : decode cc pc = .ok (.invokevirtual index, 3)) (hM : JMet l cl Ns (.code y bytes maxLy rety :: Ts) y Ry (.ref b :: [v1, v2]) ws (fun v w => v = some (.int r) ∧ w = w1)) (he : ws[b]? = some (.inr (ci, fs))) (hc : cl[ci]? = some (y.cls, T, N)) (hcode : Cond.code y bytes maxLy rety ∈ Ts) (hgood : ∀ w ∈ Ts, (w.onTables && w.keeps) = true ∨ ∃ ty, w = .arrayClass ty) (hrc : Ry.cells = 0) (hrs : Ry.slots = 0) (hini : Cond.initialized y.cls ∈ Ts) (hli : ((own, index, y, host) : String × Nat × MethodName × String) ∈ Ns) (hdy : y.cls ≠ "java/lang/invoke/MethodHandle" ∧ y.cls ≠ "java/lang/invoke/VarHandle" ∧ (parseMethodDescriptor y.desc).map (fun d => d.parameters.length) = some 2) (hR : Ry.frames + 1 ≤ R.frames ∧ 8 + (maxLy + 11) + Ry.locals ≤ R.locals) (hsum : (st.map fun v => v.category).sum ≤ 8) (hst : Cond.instanceMethod y ∈ Ts) (hsel : Cond.selects y.cls y y ∈ Ts)
    (k : JW l cl Ns Ts own cc nL ret R (pc + 3) ls (.int r :: st) w1 Q) : JW l cl Ns Ts own cc nL ret R pc ls (v2 :: v1 :: .ref b :: st) ws Q :=
  J_callVN (As := [v1, v2]) (rest := st) hd hM he hc hcode hgood hrc hrs hini hli hdy hR rfl hsum hst hsel (fun r0 w hq _ => by obtain ⟨rfl, rfl⟩ := hq; exact k)
theorem J_cVv2N {index maxLy : Nat} {y : MethodName} {bytes : ByteArray} {rety : Option FieldType} {Ry : Room} {host : String} {v1 v2 : Value} {b ci N : Nat} {fs : List Value} {T : u_T} {w1 : jW} (hd : decode cc pc = .ok (.invokevirtual index, 3)) (hM : JMet l cl Ns (.code y bytes maxLy rety :: Ts) y Ry (.ref b :: [v1, v2]) ws (fun v w => v = none ∧ w = w1)) (he : ws[b]? = some (.inr (ci, fs))) (hc : cl[ci]? = some (y.cls, T, N)) (hcode : Cond.code y bytes maxLy rety ∈ Ts) (hgood : ∀ w ∈ Ts, (w.onTables && w.keeps) = true ∨ ∃ ty, w = .arrayClass ty) (hrc : Ry.cells = 0) (hrs : Ry.slots = 0) (hini : Cond.initialized y.cls ∈ Ts) (hli : ((own, index, y, host) : String × Nat × MethodName × String) ∈ Ns) (hdy : y.cls ≠ "java/lang/invoke/MethodHandle" ∧ y.cls ≠ "java/lang/invoke/VarHandle" ∧ (parseMethodDescriptor y.desc).map (fun d => d.parameters.length) = some 2) (hR : Ry.frames + 1 ≤ R.frames ∧ 8 + (maxLy + 11) + Ry.locals ≤ R.locals) (hsum : (st.map fun v => v.category).sum ≤ 8) (hst : Cond.instanceMethod y ∈ Ts) (hsel : Cond.selects y.cls y y ∈ Ts)
    (k : JW l cl Ns Ts own cc nL ret R (pc + 3) ls st w1 Q) : JW l cl Ns Ts own cc nL ret R pc ls (v2 :: v1 :: .ref b :: st) ws Q :=
  J_callVN (As := [v1, v2]) (rest := st) hd hM he hc hcode hgood hrc hrs hini hli hdy hR rfl hsum hst hsel (fun r0 w hq _ => by obtain ⟨rfl, rfl⟩ := hq; exact k)
theorem J_cVi3N {index maxLy : Nat} {y : MethodName} {bytes : ByteArray} {rety : Option FieldType} {Ry : Room} {host : String} {r : Int32} {v1 v2 v3 : Value} {b ci N : Nat} {fs : List Value} {T : u_T} {w1 : jW} (hd : decode cc pc = .ok (.invokevirtual index, 3)) (hM : JMet l cl Ns (.code y bytes maxLy rety :: Ts) y Ry (.ref b :: [v1, v2, v3]) ws (fun v w => v = some (.int r) ∧ w = w1)) (he : ws[b]? = some (.inr (ci, fs))) (hc : cl[ci]? = some (y.cls, T, N)) (hcode : Cond.code y bytes maxLy rety ∈ Ts) (hgood : ∀ w ∈ Ts, (w.onTables && w.keeps) = true ∨ ∃ ty, w = .arrayClass ty) (hrc : Ry.cells = 0) (hrs : Ry.slots = 0) (hini : Cond.initialized y.cls ∈ Ts) (hli : ((own, index, y, host) : String × Nat × MethodName × String) ∈ Ns) (hdy : y.cls ≠ "java/lang/invoke/MethodHandle" ∧ y.cls ≠ "java/lang/invoke/VarHandle" ∧ (parseMethodDescriptor y.desc).map (fun d => d.parameters.length) = some 3) (hR : Ry.frames + 1 ≤ R.frames ∧ 8 + (maxLy + 11) + Ry.locals ≤ R.locals) (hsum : (st.map fun v => v.category).sum ≤ 8) (hst : Cond.instanceMethod y ∈ Ts) (hsel : Cond.selects y.cls y y ∈ Ts)
    (k : JW l cl Ns Ts own cc nL ret R (pc + 3) ls (.int r :: st) w1 Q) : JW l cl Ns Ts own cc nL ret R pc ls (v3 :: v2 :: v1 :: .ref b :: st) ws Q :=
  J_callVN (As := [v1, v2, v3]) (rest := st) hd hM he hc hcode hgood hrc hrs hini hli hdy hR rfl hsum hst hsel (fun r0 w hq _ => by obtain ⟨rfl, rfl⟩ := hq; exact k)
theorem J_cVv3N {index maxLy : Nat} {y : MethodName} {bytes : ByteArray} {rety : Option FieldType} {Ry : Room} {host : String} {v1 v2 v3 : Value} {b ci N : Nat} {fs : List Value} {T : u_T} {w1 : jW} (hd : decode cc pc = .ok (.invokevirtual index, 3)) (hM : JMet l cl Ns (.code y bytes maxLy rety :: Ts) y Ry (.ref b :: [v1, v2, v3]) ws (fun v w => v = none ∧ w = w1)) (he : ws[b]? = some (.inr (ci, fs))) (hc : cl[ci]? = some (y.cls, T, N)) (hcode : Cond.code y bytes maxLy rety ∈ Ts) (hgood : ∀ w ∈ Ts, (w.onTables && w.keeps) = true ∨ ∃ ty, w = .arrayClass ty) (hrc : Ry.cells = 0) (hrs : Ry.slots = 0) (hini : Cond.initialized y.cls ∈ Ts) (hli : ((own, index, y, host) : String × Nat × MethodName × String) ∈ Ns) (hdy : y.cls ≠ "java/lang/invoke/MethodHandle" ∧ y.cls ≠ "java/lang/invoke/VarHandle" ∧ (parseMethodDescriptor y.desc).map (fun d => d.parameters.length) = some 3) (hR : Ry.frames + 1 ≤ R.frames ∧ 8 + (maxLy + 11) + Ry.locals ≤ R.locals) (hsum : (st.map fun v => v.category).sum ≤ 8) (hst : Cond.instanceMethod y ∈ Ts) (hsel : Cond.selects y.cls y y ∈ Ts)
    (k : JW l cl Ns Ts own cc nL ret R (pc + 3) ls st w1 Q) : JW l cl Ns Ts own cc nL ret R pc ls (v3 :: v2 :: v1 :: .ref b :: st) ws Q :=
  J_callVN (As := [v1, v2, v3]) (rest := st) hd hM he hc hcode hgood hrc hrs hini hli hdy hR rfl hsum hst hsel (fun r0 w hq _ => by obtain ⟨rfl, rfl⟩ := hq; exact k)
theorem J_topi {x y : Int32} (h : x = y) (k : JW l cl Ns Ts own cc nL ret R pc ls (.int y :: st) ws Q) : JW l cl Ns Ts own cc nL ret R pc ls (.int x :: st) ws Q := by subst h; exact k
theorem J_tabIn {dflt lo hi : Int} {offs : Array Int} {len : Nat} {x : Int32} (k : Int32) {off : Int} {tgt : Nat} (hd : decode cc pc = .ok (.tableswitch dflt lo hi offs, len)) (hk : x = k) (h1 : ¬ k.toInt < lo) (h2 : ¬ hi < k.toInt) (ho : offs[(k.toInt - lo).toNat]? = some off) (ht : (pc : Int) + off = (tgt : Int)) (k : JW l cl Ns Ts own cc nL ret R tgt ls st ws Q) : JW l cl Ns Ts own cc nL ret R pc ls (.int x :: st) ws Q := by subst hk; exact J_tableIn hd h1 h2 ho ht k
end JR
/-! mirrors: guards, steps -/
abbrev jS : Type := Nat → Int32
abbrev jB : Type := Nat → Nat → Int32
def jF : Nat := 4096
def jin (i : Int32) (n : Nat) : Bool := decide (0 ≤ i.toInt) && decide (i.toInt < (n : Int))
theorem jin_in {i : Int32} {n : Nat} (h : jin i n = true) : vp_in i n := by
  rw [vp_in_iff]
  simpa [jin] using h
def jz (i : Int32) : Bool := decide (i = 0) || decide (i = 1)
theorem jz_nar {i : Int32} (h : jz i = true) : narrow .boolean (.int i) = .int i := by
  have h : i = 0 ∨ i = 1 := by simpa [jz] using h
  rcases h with rfl | rfl <;> decide
def jg {α : Type} (b : Bool) (x : Option α) : Option α := match b with
  | true => x
  | false => none
theorem jg_some {α : Type} {b : Bool} {x : Option α} {r : α} (h : jg b x = some r) : b = true ∧ x = some r := by
  cases b with
  | true => exact ⟨rfl, h⟩
  | false => cases h
def jb {α β : Type} (x : Option α) (k : α → Option β) : Option β := match x with
  | some v => k v
  | none => none
theorem jb_some {α β : Type} {x : Option α} {k : α → Option β} {r : β} (h : jb x k = some r) : ∃ v, x = some v ∧ k v = some r := by
  cases x with
  | some v => exact ⟨v, rfl, h⟩
  | none => cases h
def jb2 {β : Type} (x : Option (jS × jB)) (k : jS → jB → Option β) : Option β := match x with
  | some (s, a) => k s a
  | none => none
theorem jb2_some {β : Type} {x : Option (jS × jB)} {k : jS → jB → Option β} {r : β} (h : jb2 x k = some r) : ∃ s a, x = some (s, a) ∧ k s a = some r := by
  cases x with
  | some v => exact ⟨v.1, v.2, rfl, h⟩
  | none => cases h
def jb3 {β : Type} (x : Option (Int32 × jS × jB)) (k : Int32 → jS → jB → Option β) : Option β := match x with
  | some (v, s, a) => k v s a
  | none => none
theorem jb3_some {β : Type} {x : Option (Int32 × jS × jB)} {k : Int32 → jS → jB → Option β} {r : β} (h : jb3 x k = some r) : ∃ v s a, x = some (v, s, a) ∧ k v s a = some r := by
  cases x with
  | some v => exact ⟨v.1, v.2.1, v.2.2, rfl, h⟩
  | none => cases h
theorem j_ifp {α : Type} {c : Prop} [Decidable c] {x y : Option α} {r : α} (hc : c) (h : (if c then x else y) = some r) : x = some r := by rwa [if_pos hc] at h
theorem j_ifn {α : Type} {c : Prop} [Decidable c] {x y : Option α} {r : α} (hc : ¬ c) (h : (if c then x else y) = some r) : y = some r := by rwa [if_neg hc] at h
theorem j_neT {x : Int32} (k : Int32) (h : ¬ x = k) : x.toInt ≠ k.toInt := fun q => h (Int32.toInt_inj.mp q)
theorem j_out2 {x : Int32} (c0 : ¬ x = 0) (c1 : ¬ x = 1) : x.toInt < 0 ∨ (1 : Int) < x.toInt := by
  have h0 : x.toInt ≠ 0 := j_neT 0 c0
  have h1 : x.toInt ≠ 1 := j_neT 1 c1
  omega
theorem j_out3 {x : Int32} (c0 : ¬ x = 0) (c1 : ¬ x = 1) (c2 : ¬ x = 2) : x.toInt < 0 ∨ (2 : Int) < x.toInt := by
  have h0 : x.toInt ≠ 0 := j_neT 0 c0
  have h1 : x.toInt ≠ 1 := j_neT 1 c1
  have h2 : x.toInt ≠ 2 := j_neT 2 c2
  omega
theorem j_out4 {x : Int32} (c0 : ¬ x = 0) (c1 : ¬ x = 1) (c2 : ¬ x = 2) (c3 : ¬ x = 3) : x.toInt < 0 ∨ (3 : Int) < x.toInt := by
  have h0 : x.toInt ≠ 0 := j_neT 0 c0
  have h1 : x.toInt ≠ 1 := j_neT 1 c1
  have h2 : x.toInt ≠ 2 := j_neT 2 c2
  have h3 : x.toInt ≠ 3 := j_neT 3 c3
  omega
theorem j_out5 {x : Int32} (c0 : ¬ x = 0) (c1 : ¬ x = 1) (c2 : ¬ x = 2) (c3 : ¬ x = 3) (c4 : ¬ x = 4) : x.toInt < 0 ∨ (4 : Int) < x.toInt := by
  have h0 : x.toInt ≠ 0 := j_neT 0 c0
  have h1 : x.toInt ≠ 1 := j_neT 1 c1
  have h2 : x.toInt ≠ 2 := j_neT 2 c2
  have h3 : x.toInt ≠ 3 := j_neT 3 c3
  have h4 : x.toInt ≠ 4 := j_neT 4 c4
  omega
theorem j_out6 {x : Int32} (c0 : ¬ x = 0) (c1 : ¬ x = 1) (c2 : ¬ x = 2) (c3 : ¬ x = 3) (c4 : ¬ x = 4) (c5 : ¬ x = 5) : x.toInt < 0 ∨ (5 : Int) < x.toInt := by
  have h0 : x.toInt ≠ 0 := j_neT 0 c0
  have h1 : x.toInt ≠ 1 := j_neT 1 c1
  have h2 : x.toInt ≠ 2 := j_neT 2 c2
  have h3 : x.toInt ≠ 3 := j_neT 3 c3
  have h4 : x.toInt ≠ 4 := j_neT 4 c4
  have h5 : x.toInt ≠ 5 := j_neT 5 c5
  omega
theorem j_out7 {x : Int32} (c0 : ¬ x = 0) (c1 : ¬ x = 1) (c2 : ¬ x = 2) (c3 : ¬ x = 3) (c4 : ¬ x = 4) (c5 : ¬ x = 5) (c6 : ¬ x = 6) : x.toInt < 0 ∨ (6 : Int) < x.toInt := by
  have h0 : x.toInt ≠ 0 := j_neT 0 c0
  have h1 : x.toInt ≠ 1 := j_neT 1 c1
  have h2 : x.toInt ≠ 2 := j_neT 2 c2
  have h3 : x.toInt ≠ 3 := j_neT 3 c3
  have h4 : x.toInt ≠ 4 := j_neT 4 c4
  have h5 : x.toInt ≠ 5 := j_neT 5 c5
  have h6 : x.toInt ≠ 6 := j_neT 6 c6
  omega
theorem j_out8 {x : Int32} (c0 : ¬ x = 0) (c1 : ¬ x = 1) (c2 : ¬ x = 2) (c3 : ¬ x = 3) (c4 : ¬ x = 4) (c5 : ¬ x = 5) (c6 : ¬ x = 6) (c7 : ¬ x = 7) : x.toInt < 0 ∨ (7 : Int) < x.toInt := by
  have h0 : x.toInt ≠ 0 := j_neT 0 c0
  have h1 : x.toInt ≠ 1 := j_neT 1 c1
  have h2 : x.toInt ≠ 2 := j_neT 2 c2
  have h3 : x.toInt ≠ 3 := j_neT 3 c3
  have h4 : x.toInt ≠ 4 := j_neT 4 c4
  have h5 : x.toInt ≠ 5 := j_neT 5 c5
  have h6 : x.toInt ≠ 6 := j_neT 6 c6
  have h7 : x.toInt ≠ 7 := j_neT 7 c7
  omega
theorem j_out17 {x : Int32} (c0 : ¬ x = 0) (c1 : ¬ x = 1) (c2 : ¬ x = 2) (c3 : ¬ x = 3) (c4 : ¬ x = 4) (c5 : ¬ x = 5) (c6 : ¬ x = 6) (c7 : ¬ x = 7) (c8 : ¬ x = 8) (c9 : ¬ x = 9) (c10 : ¬ x = 10) (c11 : ¬ x = 11) (c12 : ¬ x = 12) (c13 : ¬ x = 13) (c14 : ¬ x = 14) (c15 : ¬ x = 15) (c16 : ¬ x = 16) : x.toInt < 0 ∨ (16 : Int) < x.toInt := by
  have h0 : x.toInt ≠ 0 := j_neT 0 c0
  have h1 : x.toInt ≠ 1 := j_neT 1 c1
  have h2 : x.toInt ≠ 2 := j_neT 2 c2
  have h3 : x.toInt ≠ 3 := j_neT 3 c3
  have h4 : x.toInt ≠ 4 := j_neT 4 c4
  have h5 : x.toInt ≠ 5 := j_neT 5 c5
  have h6 : x.toInt ≠ 6 := j_neT 6 c6
  have h7 : x.toInt ≠ 7 := j_neT 7 c7
  have h8 : x.toInt ≠ 8 := j_neT 8 c8
  have h9 : x.toInt ≠ 9 := j_neT 9 c9
  have h10 : x.toInt ≠ 10 := j_neT 10 c10
  have h11 : x.toInt ≠ 11 := j_neT 11 c11
  have h12 : x.toInt ≠ 12 := j_neT 12 c12
  have h13 : x.toInt ≠ 13 := j_neT 13 c13
  have h14 : x.toInt ≠ 14 := j_neT 14 c14
  have h15 : x.toInt ≠ 15 := j_neT 15 c15
  have h16 : x.toInt ≠ 16 := j_neT 16 c16
  omega
end
section
def T_X : u_T := fun k => match k with
  | 0 => ("ClassifySort", "axioms", "LClassifySort$Axioms;", true)
  | 1 => ("ClassifySort", "reasoner", "LClassifySort$Reasoner;", true)
  | 2 => ("ClassifySort", "knowledge", "LClassifySort$Knowledge;", true)
  | 3 => ("ClassifySort", "order", "LClassifySort$Order;", true)
  | 4 => ("ClassifySort", "toldClasses", "[I", true)
  | 5 => ("ClassifySort", "classes", "I", false)
  | 6 => ("ClassifySort", "things", "I", false)
  | 7 => ("ClassifySort", "questions", "I", false)
  | _ => ("ClassifySort", "sorted", "Z", false)
def ty_X : Nat → FieldType := fun k => match k with
  | 0 => .object "ClassifySort$Axioms"
  | 1 => .object "ClassifySort$Reasoner"
  | 2 => .object "ClassifySort$Knowledge"
  | 3 => .object "ClassifySort$Order"
  | 4 => .array .int
  | 5 => .int
  | 6 => .int
  | 7 => .int
  | _ => .boolean
theorem nok_X : ∀ a, a < 9 → ∀ b, b < 9 → a ≠ b → (T_X a).2.1 ≠ (T_X b).2.1 := by decide +kernel
theorem tyok_X : ∀ k, k < 9 → parseFieldDescriptor (T_X k).2.2.1 = some (ty_X k) := by decide +kernel
def T_XA : u_T := fun k => match k with
  | 0 => ("ClassifySort$Axioms", "lefts", "[I", true)
  | 1 => ("ClassifySort$Axioms", "rights", "[I", true)
  | 2 => ("ClassifySort$Axioms", "made", "I", false)
  | _ => ("ClassifySort$Axioms", "there", "I", false)
def ty_XA : Nat → FieldType := fun k => match k with
  | 0 => .array .int
  | 1 => .array .int
  | 2 => .int
  | _ => .int
theorem nok_XA : ∀ a, a < 4 → ∀ b, b < 4 → a ≠ b → (T_XA a).2.1 ≠ (T_XA b).2.1 := by decide +kernel
theorem tyok_XA : ∀ k, k < 4 → parseFieldDescriptor (T_XA k).2.2.1 = some (ty_XA k) := by decide +kernel
def T_XR : u_T := fun k => match k with
  | 0 => ("ClassifySort$Reasoner", "axioms", "LClassifySort$Axioms;", true)
  | 1 => ("ClassifySort$Reasoner", "fired", "[I", true)
  | 2 => ("ClassifySort$Reasoner", "limit", "I", false)
  | 3 => ("ClassifySort$Reasoner", "steps", "I", false)
  | _ => ("ClassifySort$Reasoner", "facts", "I", false)
def ty_XR : Nat → FieldType := fun k => match k with
  | 0 => .object "ClassifySort$Axioms"
  | 1 => .array .int
  | 2 => .int
  | 3 => .int
  | _ => .int
theorem nok_XR : ∀ a, a < 5 → ∀ b, b < 5 → a ≠ b → (T_XR a).2.1 ≠ (T_XR b).2.1 := by decide +kernel
theorem tyok_XR : ∀ k, k < 5 → parseFieldDescriptor (T_XR k).2.2.1 = some (ty_XR k) := by decide +kernel
def T_XK : u_T := fun k => match k with
  | 0 => ("ClassifySort$Knowledge", "above", "[I", true)
  | 1 => ("ClassifySort$Knowledge", "below", "[I", true)
  | 2 => ("ClassifySort$Knowledge", "notAbove", "[I", true)
  | _ => ("ClassifySort$Knowledge", "undecided", "[I", true)
def ty_XK : Nat → FieldType := fun k => match k with
  | 0 => .array .int
  | 1 => .array .int
  | 2 => .array .int
  | _ => .array .int
theorem nok_XK : ∀ a, a < 4 → ∀ b, b < 4 → a ≠ b → (T_XK a).2.1 ≠ (T_XK b).2.1 := by decide +kernel
theorem tyok_XK : ∀ k, k < 4 → parseFieldDescriptor (T_XK k).2.2.1 = some (ty_XK k) := by decide +kernel
def T_XO : u_T := fun k => match k with
  | 0 => ("ClassifySort$Order", "knowledge", "LClassifySort$Knowledge;", true)
  | 1 => ("ClassifySort$Order", "reasoner", "LClassifySort$Reasoner;", true)
  | 2 => ("ClassifySort$Order", "placed", "I", false)
  | 3 => ("ClassifySort$Order", "empties", "I", false)
  | _ => ("ClassifySort$Order", "asked", "I", false)
def ty_XO : Nat → FieldType := fun k => match k with
  | 0 => .object "ClassifySort$Knowledge"
  | 1 => .object "ClassifySort$Reasoner"
  | 2 => .int
  | 3 => .int
  | _ => .int
theorem nok_XO : ∀ a, a < 5 → ∀ b, b < 5 → a ≠ b → (T_XO a).2.1 ≠ (T_XO b).2.1 := by decide +kernel
theorem tyok_XO : ∀ k, k < 5 → parseFieldDescriptor (T_XO k).2.2.1 = some (ty_XO k) := by decide +kernel
def T_M : u_T := fun k => match k with
  | 0 => ("ClassifySortModel", "thrown", "I", false)
  | 1 => ("ClassifySortModel", "classes", "I", false)
  | 2 => ("ClassifySortModel", "things", "I", false)
  | 3 => ("ClassifySortModel", "axioms", "I", false)
  | 4 => ("ClassifySortModel", "fuel", "I", false)
  | 5 => ("ClassifySortModel", "questions", "I", false)
  | 6 => ("ClassifySortModel", "sorted", "Z", false)
  | 7 => ("ClassifySortModel", "left", "[I", true)
  | 8 => ("ClassifySortModel", "other", "[I", true)
  | 9 => ("ClassifySortModel", "right", "[I", true)
  | 10 => ("ClassifySortModel", "there", "[Z", true)
  | 11 => ("ClassifySortModel", "member", "[Z", true)
  | 12 => ("ClassifySortModel", "state", "[I", true)
  | 13 => ("ClassifySortModel", "before", "[I", true)
  | 14 => ("ClassifySortModel", "placed", "[Z", true)
  | 15 => ("ClassifySortModel", "looked", "[Z", true)
  | 16 => ("ClassifySortModel", "fact", "[Z", true)
  | 17 => ("ClassifySortModel", "maker", "[I", true)
  | 18 => ("ClassifySortModel", "fired", "[I", true)
  | 19 => ("ClassifySortModel", "firedCount", "I", false)
  | 20 => ("ClassifySortModel", "needed", "[Z", true)
  | 21 => ("ClassifySortModel", "module", "[Z", true)
  | _ => ("ClassifySortModel", "asked", "I", false)
def ty_M : Nat → FieldType := fun k => match k with
  | 0 => .int
  | 1 => .int
  | 2 => .int
  | 3 => .int
  | 4 => .int
  | 5 => .int
  | 6 => .boolean
  | 7 => .array .int
  | 8 => .array .int
  | 9 => .array .int
  | 10 => .array .boolean
  | 11 => .array .boolean
  | 12 => .array .int
  | 13 => .array .int
  | 14 => .array .boolean
  | 15 => .array .boolean
  | 16 => .array .boolean
  | 17 => .array .int
  | 18 => .array .int
  | 19 => .int
  | 20 => .array .boolean
  | 21 => .array .boolean
  | _ => .int
theorem nok_M : ∀ a, a < 23 → ∀ b, b < 23 → a ≠ b → (T_M a).2.1 ≠ (T_M b).2.1 := by decide +kernel
theorem tyok_M : ∀ k, k < 23 → parseFieldDescriptor (T_M k).2.2.1 = some (ty_M k) := by decide +kernel
abbrev vwCl : List vw_C := [("ClassifySort", T_X, 9), ("ClassifySort$Axioms", T_XA, 4), ("ClassifySort$Reasoner", T_XR, 5), ("ClassifySort$Knowledge", T_XK, 4), ("ClassifySort$Order", T_XO, 5), ("ClassifySortModel", T_M, 23)]
def y_X_class0 : MethodName := ⟨"ClassifySort", "class0", "()I"⟩
theorem dy_X_class0 : y_X_class0.cls ≠ "java/lang/invoke/MethodHandle" ∧ y_X_class0.cls ≠ "java/lang/invoke/VarHandle" ∧ (parseMethodDescriptor y_X_class0.desc).map (fun d => d.parameters.length) = some 0 := by decide +kernel
def y_XK_addClass : MethodName := ⟨"ClassifySort$Knowledge", "addClass", "(I)V"⟩
theorem dy_XK_addClass : y_XK_addClass.cls ≠ "java/lang/invoke/MethodHandle" ∧ y_XK_addClass.cls ≠ "java/lang/invoke/VarHandle" ∧ (parseMethodDescriptor y_XK_addClass.desc).map (fun d => d.parameters.length) = some 1 := by decide +kernel
def y_X_bit : MethodName := ⟨"ClassifySort", "bit", "(I)I"⟩
theorem dy_X_bit : y_X_bit.cls ≠ "java/lang/invoke/MethodHandle" ∧ y_X_bit.cls ≠ "java/lang/invoke/VarHandle" ∧ (parseMethodDescriptor y_X_bit.desc).map (fun d => d.parameters.length) = some 1 := by decide +kernel
def y_XK_tellYes : MethodName := ⟨"ClassifySort$Knowledge", "tellYes", "(II)V"⟩
theorem dy_XK_tellYes : y_XK_tellYes.cls ≠ "java/lang/invoke/MethodHandle" ∧ y_XK_tellYes.cls ≠ "java/lang/invoke/VarHandle" ∧ (parseMethodDescriptor y_XK_tellYes.desc).map (fun d => d.parameters.length) = some 2 := by decide +kernel
def y_X_has : MethodName := ⟨"ClassifySort", "has", "(II)Z"⟩
theorem dy_X_has : y_X_has.cls ≠ "java/lang/invoke/MethodHandle" ∧ y_X_has.cls ≠ "java/lang/invoke/VarHandle" ∧ (parseMethodDescriptor y_X_has.desc).map (fun d => d.parameters.length) = some 2 := by decide +kernel
def y_XK_close : MethodName := ⟨"ClassifySort$Knowledge", "close", "()V"⟩
theorem dy_XK_close : y_XK_close.cls ≠ "java/lang/invoke/MethodHandle" ∧ y_XK_close.cls ≠ "java/lang/invoke/VarHandle" ∧ (parseMethodDescriptor y_XK_close.desc).map (fun d => d.parameters.length) = some 0 := by decide +kernel
def y_XK_union : MethodName := ⟨"ClassifySort$Knowledge", "union", "([II)I"⟩
theorem dy_XK_union : y_XK_union.cls ≠ "java/lang/invoke/MethodHandle" ∧ y_XK_union.cls ≠ "java/lang/invoke/VarHandle" ∧ (parseMethodDescriptor y_XK_union.desc).map (fun d => d.parameters.length) = some 2 := by decide +kernel
def y_X_thing : MethodName := ⟨"ClassifySort", "thing", "()I"⟩
theorem dy_X_thing : y_X_thing.cls ≠ "java/lang/invoke/MethodHandle" ∧ y_X_thing.cls ≠ "java/lang/invoke/VarHandle" ∧ (parseMethodDescriptor y_X_thing.desc).map (fun d => d.parameters.length) = some 0 := by decide +kernel
def y_X_axiom : MethodName := ⟨"ClassifySort", "axiom", "(III)I"⟩
theorem dy_X_axiom : y_X_axiom.cls ≠ "java/lang/invoke/MethodHandle" ∧ y_X_axiom.cls ≠ "java/lang/invoke/VarHandle" ∧ (parseMethodDescriptor y_X_axiom.desc).map (fun d => d.parameters.length) = some 3 := by decide +kernel
def y_X_isClass : MethodName := ⟨"ClassifySort", "isClass", "(I)Z"⟩
theorem dy_X_isClass : y_X_isClass.cls ≠ "java/lang/invoke/MethodHandle" ∧ y_X_isClass.cls ≠ "java/lang/invoke/VarHandle" ∧ (parseMethodDescriptor y_X_isClass.desc).map (fun d => d.parameters.length) = some 1 := by decide +kernel
def y_X_isGoal : MethodName := ⟨"ClassifySort", "isGoal", "(I)Z"⟩
theorem dy_X_isGoal : y_X_isGoal.cls ≠ "java/lang/invoke/MethodHandle" ∧ y_X_isGoal.cls ≠ "java/lang/invoke/VarHandle" ∧ (parseMethodDescriptor y_X_isGoal.desc).map (fun d => d.parameters.length) = some 1 := by decide +kernel
def y_XA_isFull : MethodName := ⟨"ClassifySort$Axioms", "isFull", "()Z"⟩
theorem dy_XA_isFull : y_XA_isFull.cls ≠ "java/lang/invoke/MethodHandle" ∧ y_XA_isFull.cls ≠ "java/lang/invoke/VarHandle" ∧ (parseMethodDescriptor y_XA_isFull.desc).map (fun d => d.parameters.length) = some 0 := by decide +kernel
def y_X_slot : MethodName := ⟨"ClassifySort", "slot", "(I)I"⟩
theorem dy_X_slot : y_X_slot.cls ≠ "java/lang/invoke/MethodHandle" ∧ y_X_slot.cls ≠ "java/lang/invoke/VarHandle" ∧ (parseMethodDescriptor y_X_slot.desc).map (fun d => d.parameters.length) = some 1 := by decide +kernel
def y_XA_add : MethodName := ⟨"ClassifySort$Axioms", "add", "(II)I"⟩
theorem dy_XA_add : y_XA_add.cls ≠ "java/lang/invoke/MethodHandle" ∧ y_XA_add.cls ≠ "java/lang/invoke/VarHandle" ∧ (parseMethodDescriptor y_XA_add.desc).map (fun d => d.parameters.length) = some 2 := by decide +kernel
def y_XA_touchedBy : MethodName := ⟨"ClassifySort$Axioms", "touchedBy", "(I)I"⟩
theorem dy_XA_touchedBy : y_XA_touchedBy.cls ≠ "java/lang/invoke/MethodHandle" ∧ y_XA_touchedBy.cls ≠ "java/lang/invoke/VarHandle" ∧ (parseMethodDescriptor y_XA_touchedBy.desc).map (fun d => d.parameters.length) = some 1 := by decide +kernel
def y_XA_leftOf : MethodName := ⟨"ClassifySort$Axioms", "leftOf", "(I)I"⟩
theorem dy_XA_leftOf : y_XA_leftOf.cls ≠ "java/lang/invoke/MethodHandle" ∧ y_XA_leftOf.cls ≠ "java/lang/invoke/VarHandle" ∧ (parseMethodDescriptor y_XA_leftOf.desc).map (fun d => d.parameters.length) = some 1 := by decide +kernel
def y_XK_forgetNo : MethodName := ⟨"ClassifySort$Knowledge", "forgetNo", "(I)V"⟩
theorem dy_XK_forgetNo : y_XK_forgetNo.cls ≠ "java/lang/invoke/MethodHandle" ∧ y_XK_forgetNo.cls ≠ "java/lang/invoke/VarHandle" ∧ (parseMethodDescriptor y_XK_forgetNo.desc).map (fun d => d.parameters.length) = some 1 := by decide +kernel
def y_X_tellAxioms : MethodName := ⟨"ClassifySort", "tellAxioms", "()V"⟩
theorem dy_X_tellAxioms : y_X_tellAxioms.cls ≠ "java/lang/invoke/MethodHandle" ∧ y_X_tellAxioms.cls ≠ "java/lang/invoke/VarHandle" ∧ (parseMethodDescriptor y_X_tellAxioms.desc).map (fun d => d.parameters.length) = some 0 := by decide +kernel
def y_JI_bitCount : MethodName := ⟨"java/lang/Integer", "bitCount", "(I)I"⟩
theorem dy_JI_bitCount : y_JI_bitCount.cls ≠ "java/lang/invoke/MethodHandle" ∧ y_JI_bitCount.cls ≠ "java/lang/invoke/VarHandle" ∧ (parseMethodDescriptor y_JI_bitCount.desc).map (fun d => d.parameters.length) = some 1 := by decide +kernel
def y_JI_numberOfTrailingZeros : MethodName := ⟨"java/lang/Integer", "numberOfTrailingZeros", "(I)I"⟩
theorem dy_JI_numberOfTrailingZeros : y_JI_numberOfTrailingZeros.cls ≠ "java/lang/invoke/MethodHandle" ∧ y_JI_numberOfTrailingZeros.cls ≠ "java/lang/invoke/VarHandle" ∧ (parseMethodDescriptor y_JI_numberOfTrailingZeros.desc).map (fun d => d.parameters.length) = some 1 := by decide +kernel
def y_XA_rightOf : MethodName := ⟨"ClassifySort$Axioms", "rightOf", "(I)I"⟩
theorem dy_XA_rightOf : y_XA_rightOf.cls ≠ "java/lang/invoke/MethodHandle" ∧ y_XA_rightOf.cls ≠ "java/lang/invoke/VarHandle" ∧ (parseMethodDescriptor y_XA_rightOf.desc).map (fun d => d.parameters.length) = some 1 := by decide +kernel
def y_X_remove : MethodName := ⟨"ClassifySort", "remove", "(I)I"⟩
theorem dy_X_remove : y_X_remove.cls ≠ "java/lang/invoke/MethodHandle" ∧ y_X_remove.cls ≠ "java/lang/invoke/VarHandle" ∧ (parseMethodDescriptor y_X_remove.desc).map (fun d => d.parameters.length) = some 1 := by decide +kernel
def y_XA_isThere : MethodName := ⟨"ClassifySort$Axioms", "isThere", "(I)Z"⟩
theorem dy_XA_isThere : y_XA_isThere.cls ≠ "java/lang/invoke/MethodHandle" ∧ y_XA_isThere.cls ≠ "java/lang/invoke/VarHandle" ∧ (parseMethodDescriptor y_XA_isThere.desc).map (fun d => d.parameters.length) = some 1 := by decide +kernel
def y_XK_knownPairs : MethodName := ⟨"ClassifySort$Knowledge", "knownPairs", "(I)I"⟩
theorem dy_XK_knownPairs : y_XK_knownPairs.cls ≠ "java/lang/invoke/MethodHandle" ∧ y_XK_knownPairs.cls ≠ "java/lang/invoke/VarHandle" ∧ (parseMethodDescriptor y_XK_knownPairs.desc).map (fun d => d.parameters.length) = some 1 := by decide +kernel
def y_XA_drop : MethodName := ⟨"ClassifySort$Axioms", "drop", "(I)V"⟩
theorem dy_XA_drop : y_XA_drop.cls ≠ "java/lang/invoke/MethodHandle" ∧ y_XA_drop.cls ≠ "java/lang/invoke/VarHandle" ∧ (parseMethodDescriptor y_XA_drop.desc).map (fun d => d.parameters.length) = some 1 := by decide +kernel
def y_XK_forgetYes : MethodName := ⟨"ClassifySort$Knowledge", "forgetYes", "(I)V"⟩
theorem dy_XK_forgetYes : y_XK_forgetYes.cls ≠ "java/lang/invoke/MethodHandle" ∧ y_XK_forgetYes.cls ≠ "java/lang/invoke/VarHandle" ∧ (parseMethodDescriptor y_XK_forgetYes.desc).map (fun d => d.parameters.length) = some 1 := by decide +kernel
def y_X_fuel : MethodName := ⟨"ClassifySort", "fuel", "(I)I"⟩
theorem dy_X_fuel : y_X_fuel.cls ≠ "java/lang/invoke/MethodHandle" ∧ y_X_fuel.cls ≠ "java/lang/invoke/VarHandle" ∧ (parseMethodDescriptor y_X_fuel.desc).map (fun d => d.parameters.length) = some 1 := by decide +kernel
def y_XK_openPairs : MethodName := ⟨"ClassifySort$Knowledge", "openPairs", "(I)I"⟩
theorem dy_XK_openPairs : y_XK_openPairs.cls ≠ "java/lang/invoke/MethodHandle" ∧ y_XK_openPairs.cls ≠ "java/lang/invoke/VarHandle" ∧ (parseMethodDescriptor y_XK_openPairs.desc).map (fun d => d.parameters.length) = some 1 := by decide +kernel
def y_XR_fillUp : MethodName := ⟨"ClassifySort$Reasoner", "fillUp", "(I)V"⟩
theorem dy_XR_fillUp : y_XR_fillUp.cls ≠ "java/lang/invoke/MethodHandle" ∧ y_XR_fillUp.cls ≠ "java/lang/invoke/VarHandle" ∧ (parseMethodDescriptor y_XR_fillUp.desc).map (fun d => d.parameters.length) = some 1 := by decide +kernel
def y_XK_forgetOpen : MethodName := ⟨"ClassifySort$Knowledge", "forgetOpen", "()V"⟩
theorem dy_XK_forgetOpen : y_XK_forgetOpen.cls ≠ "java/lang/invoke/MethodHandle" ∧ y_XK_forgetOpen.cls ≠ "java/lang/invoke/VarHandle" ∧ (parseMethodDescriptor y_XK_forgetOpen.desc).map (fun d => d.parameters.length) = some 0 := by decide +kernel
def y_X_known : MethodName := ⟨"ClassifySort", "known", "(II)I"⟩
theorem dy_X_known : y_X_known.cls ≠ "java/lang/invoke/MethodHandle" ∧ y_X_known.cls ≠ "java/lang/invoke/VarHandle" ∧ (parseMethodDescriptor y_X_known.desc).map (fun d => d.parameters.length) = some 2 := by decide +kernel
def y_XK_of : MethodName := ⟨"ClassifySort$Knowledge", "of", "(II)I"⟩
theorem dy_XK_of : y_XK_of.cls ≠ "java/lang/invoke/MethodHandle" ∧ y_XK_of.cls ≠ "java/lang/invoke/VarHandle" ∧ (parseMethodDescriptor y_XK_of.desc).map (fun d => d.parameters.length) = some 2 := by decide +kernel
def y_X_ask : MethodName := ⟨"ClassifySort", "ask", "(II)I"⟩
theorem dy_X_ask : y_X_ask.cls ≠ "java/lang/invoke/MethodHandle" ∧ y_X_ask.cls ≠ "java/lang/invoke/VarHandle" ∧ (parseMethodDescriptor y_X_ask.desc).map (fun d => d.parameters.length) = some 2 := by decide +kernel
def y_XR_decide : MethodName := ⟨"ClassifySort$Reasoner", "decide", "(II)I"⟩
theorem dy_XR_decide : y_XR_decide.cls ≠ "java/lang/invoke/MethodHandle" ∧ y_XR_decide.cls ≠ "java/lang/invoke/VarHandle" ∧ (parseMethodDescriptor y_XR_decide.desc).map (fun d => d.parameters.length) = some 2 := by decide +kernel
def y_XA_firstThatFires : MethodName := ⟨"ClassifySort$Axioms", "firstThatFires", "(I)I"⟩
theorem dy_XA_firstThatFires : y_XA_firstThatFires.cls ≠ "java/lang/invoke/MethodHandle" ∧ y_XA_firstThatFires.cls ≠ "java/lang/invoke/VarHandle" ∧ (parseMethodDescriptor y_XA_firstThatFires.desc).map (fun d => d.parameters.length) = some 1 := by decide +kernel
def y_X_run : MethodName := ⟨"ClassifySort", "run", "()I"⟩
theorem dy_X_run : y_X_run.cls ≠ "java/lang/invoke/MethodHandle" ∧ y_X_run.cls ≠ "java/lang/invoke/VarHandle" ∧ (parseMethodDescriptor y_X_run.desc).map (fun d => d.parameters.length) = some 0 := by decide +kernel
def y_XO_sort : MethodName := ⟨"ClassifySort$Order", "sort", "(I)I"⟩
theorem dy_XO_sort : y_XO_sort.cls ≠ "java/lang/invoke/MethodHandle" ∧ y_XO_sort.cls ≠ "java/lang/invoke/VarHandle" ∧ (parseMethodDescriptor y_XO_sort.desc).map (fun d => d.parameters.length) = some 1 := by decide +kernel
def y_XO_answer : MethodName := ⟨"ClassifySort$Order", "answer", "(II)I"⟩
theorem dy_XO_answer : y_XO_answer.cls ≠ "java/lang/invoke/MethodHandle" ∧ y_XO_answer.cls ≠ "java/lang/invoke/VarHandle" ∧ (parseMethodDescriptor y_XO_answer.desc).map (fun d => d.parameters.length) = some 2 := by decide +kernel
def y_XK_learn : MethodName := ⟨"ClassifySort$Knowledge", "learn", "(III)V"⟩
theorem dy_XK_learn : y_XK_learn.cls ≠ "java/lang/invoke/MethodHandle" ∧ y_XK_learn.cls ≠ "java/lang/invoke/VarHandle" ∧ (parseMethodDescriptor y_XK_learn.desc).map (fun d => d.parameters.length) = some 3 := by decide +kernel
def y_XO_searchDown : MethodName := ⟨"ClassifySort$Order", "searchDown", "(I)V"⟩
theorem dy_XO_searchDown : y_XO_searchDown.cls ≠ "java/lang/invoke/MethodHandle" ∧ y_XO_searchDown.cls ≠ "java/lang/invoke/VarHandle" ∧ (parseMethodDescriptor y_XO_searchDown.desc).map (fun d => d.parameters.length) = some 1 := by decide +kernel
def y_XO_nextDown : MethodName := ⟨"ClassifySort$Order", "nextDown", "(II)I"⟩
theorem dy_XO_nextDown : y_XO_nextDown.cls ≠ "java/lang/invoke/MethodHandle" ∧ y_XO_nextDown.cls ≠ "java/lang/invoke/VarHandle" ∧ (parseMethodDescriptor y_XO_nextDown.desc).map (fun d => d.parameters.length) = some 2 := by decide +kernel
def y_XK_allAbove : MethodName := ⟨"ClassifySort$Knowledge", "allAbove", "(I)I"⟩
theorem dy_XK_allAbove : y_XK_allAbove.cls ≠ "java/lang/invoke/MethodHandle" ∧ y_XK_allAbove.cls ≠ "java/lang/invoke/VarHandle" ∧ (parseMethodDescriptor y_XK_allAbove.desc).map (fun d => d.parameters.length) = some 1 := by decide +kernel
def y_XK_strictlyAbove : MethodName := ⟨"ClassifySort$Knowledge", "strictlyAbove", "(I)I"⟩
theorem dy_XK_strictlyAbove : y_XK_strictlyAbove.cls ≠ "java/lang/invoke/MethodHandle" ∧ y_XK_strictlyAbove.cls ≠ "java/lang/invoke/VarHandle" ∧ (parseMethodDescriptor y_XK_strictlyAbove.desc).map (fun d => d.parameters.length) = some 1 := by decide +kernel
def y_XO_searchUp : MethodName := ⟨"ClassifySort$Order", "searchUp", "(I)V"⟩
theorem dy_XO_searchUp : y_XO_searchUp.cls ≠ "java/lang/invoke/MethodHandle" ∧ y_XO_searchUp.cls ≠ "java/lang/invoke/VarHandle" ∧ (parseMethodDescriptor y_XO_searchUp.desc).map (fun d => d.parameters.length) = some 1 := by decide +kernel
def y_XO_nextUp : MethodName := ⟨"ClassifySort$Order", "nextUp", "(II)I"⟩
theorem dy_XO_nextUp : y_XO_nextUp.cls ≠ "java/lang/invoke/MethodHandle" ∧ y_XO_nextUp.cls ≠ "java/lang/invoke/VarHandle" ∧ (parseMethodDescriptor y_XO_nextUp.desc).map (fun d => d.parameters.length) = some 2 := by decide +kernel
def y_XK_allBelow : MethodName := ⟨"ClassifySort$Knowledge", "allBelow", "(I)I"⟩
theorem dy_XK_allBelow : y_XK_allBelow.cls ≠ "java/lang/invoke/MethodHandle" ∧ y_XK_allBelow.cls ≠ "java/lang/invoke/VarHandle" ∧ (parseMethodDescriptor y_XK_allBelow.desc).map (fun d => d.parameters.length) = some 1 := by decide +kernel
def y_XK_strictlyBelow : MethodName := ⟨"ClassifySort$Knowledge", "strictlyBelow", "(I)I"⟩
theorem dy_XK_strictlyBelow : y_XK_strictlyBelow.cls ≠ "java/lang/invoke/MethodHandle" ∧ y_XK_strictlyBelow.cls ≠ "java/lang/invoke/VarHandle" ∧ (parseMethodDescriptor y_XK_strictlyBelow.desc).map (fun d => d.parameters.length) = some 1 := by decide +kernel
def y_X_parent : MethodName := ⟨"ClassifySort", "parent", "(II)I"⟩
theorem dy_X_parent : y_X_parent.cls ≠ "java/lang/invoke/MethodHandle" ∧ y_X_parent.cls ≠ "java/lang/invoke/VarHandle" ∧ (parseMethodDescriptor y_X_parent.desc).map (fun d => d.parameters.length) = some 2 := by decide +kernel
def y_XO_isEmptyClass : MethodName := ⟨"ClassifySort$Order", "isEmptyClass", "(I)Z"⟩
theorem dy_XO_isEmptyClass : y_XO_isEmptyClass.cls ≠ "java/lang/invoke/MethodHandle" ∧ y_XO_isEmptyClass.cls ≠ "java/lang/invoke/VarHandle" ∧ (parseMethodDescriptor y_XO_isEmptyClass.desc).map (fun d => d.parameters.length) = some 1 := by decide +kernel
def y_XO_firstOfSame : MethodName := ⟨"ClassifySort$Order", "firstOfSame", "(I)I"⟩
theorem dy_XO_firstOfSame : y_XO_firstOfSame.cls ≠ "java/lang/invoke/MethodHandle" ∧ y_XO_firstOfSame.cls ≠ "java/lang/invoke/VarHandle" ∧ (parseMethodDescriptor y_XO_firstOfSame.desc).map (fun d => d.parameters.length) = some 1 := by decide +kernel
def y_XK_sameAs : MethodName := ⟨"ClassifySort$Knowledge", "sameAs", "(I)I"⟩
theorem dy_XK_sameAs : y_XK_sameAs.cls ≠ "java/lang/invoke/MethodHandle" ∧ y_XK_sameAs.cls ≠ "java/lang/invoke/VarHandle" ∧ (parseMethodDescriptor y_XK_sameAs.desc).map (fun d => d.parameters.length) = some 1 := by decide +kernel
def y_X_pick : MethodName := ⟨"ClassifySort", "pick", "(II)I"⟩
theorem dy_X_pick : y_X_pick.cls ≠ "java/lang/invoke/MethodHandle" ∧ y_X_pick.cls ≠ "java/lang/invoke/VarHandle" ∧ (parseMethodDescriptor y_X_pick.desc).map (fun d => d.parameters.length) = some 2 := by decide +kernel
def y_XO_directlyAbove : MethodName := ⟨"ClassifySort$Order", "directlyAbove", "(I)I"⟩
theorem dy_XO_directlyAbove : y_XO_directlyAbove.cls ≠ "java/lang/invoke/MethodHandle" ∧ y_XO_directlyAbove.cls ≠ "java/lang/invoke/VarHandle" ∧ (parseMethodDescriptor y_XO_directlyAbove.desc).map (fun d => d.parameters.length) = some 1 := by decide +kernel
def y_XO_lowest : MethodName := ⟨"ClassifySort$Order", "lowest", "()I"⟩
theorem dy_XO_lowest : y_XO_lowest.cls ≠ "java/lang/invoke/MethodHandle" ∧ y_XO_lowest.cls ≠ "java/lang/invoke/VarHandle" ∧ (parseMethodDescriptor y_XO_lowest.desc).map (fun d => d.parameters.length) = some 0 := by decide +kernel
def y_XO_lowestAmong : MethodName := ⟨"ClassifySort$Order", "lowestAmong", "(I)I"⟩
theorem dy_XO_lowestAmong : y_XO_lowestAmong.cls ≠ "java/lang/invoke/MethodHandle" ∧ y_XO_lowestAmong.cls ≠ "java/lang/invoke/VarHandle" ∧ (parseMethodDescriptor y_XO_lowestAmong.desc).map (fun d => d.parameters.length) = some 1 := by decide +kernel
def y_XO_directlyBelow : MethodName := ⟨"ClassifySort$Order", "directlyBelow", "(I)I"⟩
theorem dy_XO_directlyBelow : y_XO_directlyBelow.cls ≠ "java/lang/invoke/MethodHandle" ∧ y_XO_directlyBelow.cls ≠ "java/lang/invoke/VarHandle" ∧ (parseMethodDescriptor y_XO_directlyBelow.desc).map (fun d => d.parameters.length) = some 1 := by decide +kernel
def y_X_child : MethodName := ⟨"ClassifySort", "child", "(II)I"⟩
theorem dy_X_child : y_X_child.cls ≠ "java/lang/invoke/MethodHandle" ∧ y_X_child.cls ≠ "java/lang/invoke/VarHandle" ∧ (parseMethodDescriptor y_X_child.desc).map (fun d => d.parameters.length) = some 2 := by decide +kernel
def y_X_equal : MethodName := ⟨"ClassifySort", "equal", "(II)I"⟩
theorem dy_X_equal : y_X_equal.cls ≠ "java/lang/invoke/MethodHandle" ∧ y_X_equal.cls ≠ "java/lang/invoke/VarHandle" ∧ (parseMethodDescriptor y_X_equal.desc).map (fun d => d.parameters.length) = some 2 := by decide +kernel
def y_X_empty : MethodName := ⟨"ClassifySort", "empty", "(I)I"⟩
theorem dy_X_empty : y_X_empty.cls ≠ "java/lang/invoke/MethodHandle" ∧ y_X_empty.cls ≠ "java/lang/invoke/VarHandle" ∧ (parseMethodDescriptor y_X_empty.desc).map (fun d => d.parameters.length) = some 1 := by decide +kernel
def y_XO_emptyClasses : MethodName := ⟨"ClassifySort$Order", "emptyClasses", "()I"⟩
theorem dy_XO_emptyClasses : y_XO_emptyClasses.cls ≠ "java/lang/invoke/MethodHandle" ∧ y_XO_emptyClasses.cls ≠ "java/lang/invoke/VarHandle" ∧ (parseMethodDescriptor y_XO_emptyClasses.desc).map (fun d => d.parameters.length) = some 0 := by decide +kernel
def y_X_open : MethodName := ⟨"ClassifySort", "open", "(I)I"⟩
theorem dy_X_open : y_X_open.cls ≠ "java/lang/invoke/MethodHandle" ∧ y_X_open.cls ≠ "java/lang/invoke/VarHandle" ∧ (parseMethodDescriptor y_X_open.desc).map (fun d => d.parameters.length) = some 1 := by decide +kernel
def y_XK_openOf : MethodName := ⟨"ClassifySort$Knowledge", "openOf", "(I)I"⟩
theorem dy_XK_openOf : y_XK_openOf.cls ≠ "java/lang/invoke/MethodHandle" ∧ y_XK_openOf.cls ≠ "java/lang/invoke/VarHandle" ∧ (parseMethodDescriptor y_XK_openOf.desc).map (fun d => d.parameters.length) = some 1 := by decide +kernel
def y_X_put : MethodName := ⟨"ClassifySort", "put", "(II)I"⟩
theorem dy_X_put : y_X_put.cls ≠ "java/lang/invoke/MethodHandle" ∧ y_X_put.cls ≠ "java/lang/invoke/VarHandle" ∧ (parseMethodDescriptor y_X_put.desc).map (fun d => d.parameters.length) = some 2 := by decide +kernel
def y_X_isThing : MethodName := ⟨"ClassifySort", "isThing", "(I)Z"⟩
theorem dy_X_isThing : y_X_isThing.cls ≠ "java/lang/invoke/MethodHandle" ∧ y_X_isThing.cls ≠ "java/lang/invoke/VarHandle" ∧ (parseMethodDescriptor y_X_isThing.desc).map (fun d => d.parameters.length) = some 1 := by decide +kernel
def y_X_type : MethodName := ⟨"ClassifySort", "type", "(II)I"⟩
theorem dy_X_type : y_X_type.cls ≠ "java/lang/invoke/MethodHandle" ∧ y_X_type.cls ≠ "java/lang/invoke/VarHandle" ∧ (parseMethodDescriptor y_X_type.desc).map (fun d => d.parameters.length) = some 2 := by decide +kernel
def y_XR_facts : MethodName := ⟨"ClassifySort$Reasoner", "facts", "()I"⟩
theorem dy_XR_facts : y_XR_facts.cls ≠ "java/lang/invoke/MethodHandle" ∧ y_XR_facts.cls ≠ "java/lang/invoke/VarHandle" ∧ (parseMethodDescriptor y_XR_facts.desc).map (fun d => d.parameters.length) = some 0 := by decide +kernel
def y_X_trace : MethodName := ⟨"ClassifySort", "trace", "(III)I"⟩
theorem dy_X_trace : y_X_trace.cls ≠ "java/lang/invoke/MethodHandle" ∧ y_X_trace.cls ≠ "java/lang/invoke/VarHandle" ∧ (parseMethodDescriptor y_X_trace.desc).map (fun d => d.parameters.length) = some 3 := by decide +kernel
def y_XR_neededSteps : MethodName := ⟨"ClassifySort$Reasoner", "neededSteps", "()I"⟩
theorem dy_XR_neededSteps : y_XR_neededSteps.cls ≠ "java/lang/invoke/MethodHandle" ∧ y_XR_neededSteps.cls ≠ "java/lang/invoke/VarHandle" ∧ (parseMethodDescriptor y_XR_neededSteps.desc).map (fun d => d.parameters.length) = some 0 := by decide +kernel
def y_XR_firedAt : MethodName := ⟨"ClassifySort$Reasoner", "firedAt", "(I)I"⟩
theorem dy_XR_firedAt : y_XR_firedAt.cls ≠ "java/lang/invoke/MethodHandle" ∧ y_XR_firedAt.cls ≠ "java/lang/invoke/VarHandle" ∧ (parseMethodDescriptor y_XR_firedAt.desc).map (fun d => d.parameters.length) = some 1 := by decide +kernel
def y_X_count : MethodName := ⟨"ClassifySort", "count", "(I)I"⟩
theorem dy_X_count : y_X_count.cls ≠ "java/lang/invoke/MethodHandle" ∧ y_X_count.cls ≠ "java/lang/invoke/VarHandle" ∧ (parseMethodDescriptor y_X_count.desc).map (fun d => d.parameters.length) = some 1 := by decide +kernel
def y_XA_thereNow : MethodName := ⟨"ClassifySort$Axioms", "thereNow", "()I"⟩
theorem dy_XA_thereNow : y_XA_thereNow.cls ≠ "java/lang/invoke/MethodHandle" ∧ y_XA_thereNow.cls ≠ "java/lang/invoke/VarHandle" ∧ (parseMethodDescriptor y_XA_thereNow.desc).map (fun d => d.parameters.length) = some 0 := by decide +kernel
def y_XO_placedClasses : MethodName := ⟨"ClassifySort$Order", "placedClasses", "()I"⟩
theorem dy_XO_placedClasses : y_XO_placedClasses.cls ≠ "java/lang/invoke/MethodHandle" ∧ y_XO_placedClasses.cls ≠ "java/lang/invoke/VarHandle" ∧ (parseMethodDescriptor y_XO_placedClasses.desc).map (fun d => d.parameters.length) = some 0 := by decide +kernel
def y_M_class0 : MethodName := ⟨"ClassifySortModel", "class0", "()I"⟩
theorem dy_M_class0 : y_M_class0.cls ≠ "java/lang/invoke/MethodHandle" ∧ y_M_class0.cls ≠ "java/lang/invoke/VarHandle" ∧ (parseMethodDescriptor y_M_class0.desc).map (fun d => d.parameters.length) = some 0 := by decide +kernel
def y_M_close : MethodName := ⟨"ClassifySortModel", "close", "()V"⟩
theorem dy_M_close : y_M_close.cls ≠ "java/lang/invoke/MethodHandle" ∧ y_M_close.cls ≠ "java/lang/invoke/VarHandle" ∧ (parseMethodDescriptor y_M_close.desc).map (fun d => d.parameters.length) = some 0 := by decide +kernel
def y_M_tellItself : MethodName := ⟨"ClassifySortModel", "tellItself", "()V"⟩
theorem dy_M_tellItself : y_M_tellItself.cls ≠ "java/lang/invoke/MethodHandle" ∧ y_M_tellItself.cls ≠ "java/lang/invoke/VarHandle" ∧ (parseMethodDescriptor y_M_tellItself.desc).map (fun d => d.parameters.length) = some 0 := by decide +kernel
def y_M_isItself : MethodName := ⟨"ClassifySortModel", "isItself", "(II)Z"⟩
theorem dy_M_isItself : y_M_isItself.cls ≠ "java/lang/invoke/MethodHandle" ∧ y_M_isItself.cls ≠ "java/lang/invoke/VarHandle" ∧ (parseMethodDescriptor y_M_isItself.desc).map (fun d => d.parameters.length) = some 2 := by decide +kernel
def y_M_closeOnce : MethodName := ⟨"ClassifySortModel", "closeOnce", "()Z"⟩
theorem dy_M_closeOnce : y_M_closeOnce.cls ≠ "java/lang/invoke/MethodHandle" ∧ y_M_closeOnce.cls ≠ "java/lang/invoke/VarHandle" ∧ (parseMethodDescriptor y_M_closeOnce.desc).map (fun d => d.parameters.length) = some 0 := by decide +kernel
def y_M_isHere : MethodName := ⟨"ClassifySortModel", "isHere", "(I)Z"⟩
theorem dy_M_isHere : y_M_isHere.cls ≠ "java/lang/invoke/MethodHandle" ∧ y_M_isHere.cls ≠ "java/lang/invoke/VarHandle" ∧ (parseMethodDescriptor y_M_isHere.desc).map (fun d => d.parameters.length) = some 1 := by decide +kernel
def y_M_below : MethodName := ⟨"ClassifySortModel", "below", "(II)Z"⟩
theorem dy_M_below : y_M_below.cls ≠ "java/lang/invoke/MethodHandle" ∧ y_M_below.cls ≠ "java/lang/invoke/VarHandle" ∧ (parseMethodDescriptor y_M_below.desc).map (fun d => d.parameters.length) = some 2 := by decide +kernel
def y_M_spreadNo : MethodName := ⟨"ClassifySortModel", "spreadNo", "(II)Z"⟩
theorem dy_M_spreadNo : y_M_spreadNo.cls ≠ "java/lang/invoke/MethodHandle" ∧ y_M_spreadNo.cls ≠ "java/lang/invoke/VarHandle" ∧ (parseMethodDescriptor y_M_spreadNo.desc).map (fun d => d.parameters.length) = some 2 := by decide +kernel
def y_M_thing : MethodName := ⟨"ClassifySortModel", "thing", "()I"⟩
theorem dy_M_thing : y_M_thing.cls ≠ "java/lang/invoke/MethodHandle" ∧ y_M_thing.cls ≠ "java/lang/invoke/VarHandle" ∧ (parseMethodDescriptor y_M_thing.desc).map (fun d => d.parameters.length) = some 0 := by decide +kernel
def y_M_axiom : MethodName := ⟨"ClassifySortModel", "axiom", "(III)I"⟩
theorem dy_M_axiom : y_M_axiom.cls ≠ "java/lang/invoke/MethodHandle" ∧ y_M_axiom.cls ≠ "java/lang/invoke/VarHandle" ∧ (parseMethodDescriptor y_M_axiom.desc).map (fun d => d.parameters.length) = some 3 := by decide +kernel
def y_M_isClass : MethodName := ⟨"ClassifySortModel", "isClass", "(I)Z"⟩
theorem dy_M_isClass : y_M_isClass.cls ≠ "java/lang/invoke/MethodHandle" ∧ y_M_isClass.cls ≠ "java/lang/invoke/VarHandle" ∧ (parseMethodDescriptor y_M_isClass.desc).map (fun d => d.parameters.length) = some 1 := by decide +kernel
def y_M_forget : MethodName := ⟨"ClassifySortModel", "forget", "(II)V"⟩
theorem dy_M_forget : y_M_forget.cls ≠ "java/lang/invoke/MethodHandle" ∧ y_M_forget.cls ≠ "java/lang/invoke/VarHandle" ∧ (parseMethodDescriptor y_M_forget.desc).map (fun d => d.parameters.length) = some 2 := by decide +kernel
def y_M_isTouched : MethodName := ⟨"ClassifySortModel", "isTouched", "(II)Z"⟩
theorem dy_M_isTouched : y_M_isTouched.cls ≠ "java/lang/invoke/MethodHandle" ∧ y_M_isTouched.cls ≠ "java/lang/invoke/VarHandle" ∧ (parseMethodDescriptor y_M_isTouched.desc).map (fun d => d.parameters.length) = some 2 := by decide +kernel
def y_M_remove : MethodName := ⟨"ClassifySortModel", "remove", "(I)I"⟩
theorem dy_M_remove : y_M_remove.cls ≠ "java/lang/invoke/MethodHandle" ∧ y_M_remove.cls ≠ "java/lang/invoke/VarHandle" ∧ (parseMethodDescriptor y_M_remove.desc).map (fun d => d.parameters.length) = some 1 := by decide +kernel
def y_M_fuel : MethodName := ⟨"ClassifySortModel", "fuel", "(I)I"⟩
theorem dy_M_fuel : y_M_fuel.cls ≠ "java/lang/invoke/MethodHandle" ∧ y_M_fuel.cls ≠ "java/lang/invoke/VarHandle" ∧ (parseMethodDescriptor y_M_fuel.desc).map (fun d => d.parameters.length) = some 1 := by decide +kernel
def y_M_openPairs : MethodName := ⟨"ClassifySortModel", "openPairs", "()I"⟩
theorem dy_M_openPairs : y_M_openPairs.cls ≠ "java/lang/invoke/MethodHandle" ∧ y_M_openPairs.cls ≠ "java/lang/invoke/VarHandle" ∧ (parseMethodDescriptor y_M_openPairs.desc).map (fun d => d.parameters.length) = some 0 := by decide +kernel
def y_M_known : MethodName := ⟨"ClassifySortModel", "known", "(II)I"⟩
theorem dy_M_known : y_M_known.cls ≠ "java/lang/invoke/MethodHandle" ∧ y_M_known.cls ≠ "java/lang/invoke/VarHandle" ∧ (parseMethodDescriptor y_M_known.desc).map (fun d => d.parameters.length) = some 2 := by decide +kernel
def y_M_goalOf : MethodName := ⟨"ClassifySortModel", "goalOf", "(I)I"⟩
theorem dy_M_goalOf : y_M_goalOf.cls ≠ "java/lang/invoke/MethodHandle" ∧ y_M_goalOf.cls ≠ "java/lang/invoke/VarHandle" ∧ (parseMethodDescriptor y_M_goalOf.desc).map (fun d => d.parameters.length) = some 1 := by decide +kernel
def y_M_ask : MethodName := ⟨"ClassifySortModel", "ask", "(II)I"⟩
theorem dy_M_ask : y_M_ask.cls ≠ "java/lang/invoke/MethodHandle" ∧ y_M_ask.cls ≠ "java/lang/invoke/VarHandle" ∧ (parseMethodDescriptor y_M_ask.desc).map (fun d => d.parameters.length) = some 2 := by decide +kernel
def y_M_reasonAlone : MethodName := ⟨"ClassifySortModel", "reasonAlone", "(II)I"⟩
theorem dy_M_reasonAlone : y_M_reasonAlone.cls ≠ "java/lang/invoke/MethodHandle" ∧ y_M_reasonAlone.cls ≠ "java/lang/invoke/VarHandle" ∧ (parseMethodDescriptor y_M_reasonAlone.desc).map (fun d => d.parameters.length) = some 2 := by decide +kernel
def y_M_reason : MethodName := ⟨"ClassifySortModel", "reason", "(I)I"⟩
theorem dy_M_reason : y_M_reason.cls ≠ "java/lang/invoke/MethodHandle" ∧ y_M_reason.cls ≠ "java/lang/invoke/VarHandle" ∧ (parseMethodDescriptor y_M_reason.desc).map (fun d => d.parameters.length) = some 1 := by decide +kernel
def y_M_run : MethodName := ⟨"ClassifySortModel", "run", "()I"⟩
theorem dy_M_run : y_M_run.cls ≠ "java/lang/invoke/MethodHandle" ∧ y_M_run.cls ≠ "java/lang/invoke/VarHandle" ∧ (parseMethodDescriptor y_M_run.desc).map (fun d => d.parameters.length) = some 0 := by decide +kernel
def y_M_look : MethodName := ⟨"ClassifySortModel", "look", "(II)Z"⟩
theorem dy_M_look : y_M_look.cls ≠ "java/lang/invoke/MethodHandle" ∧ y_M_look.cls ≠ "java/lang/invoke/VarHandle" ∧ (parseMethodDescriptor y_M_look.desc).map (fun d => d.parameters.length) = some 2 := by decide +kernel
def y_M_go : MethodName := ⟨"ClassifySortModel", "go", "(IZ)V"⟩
theorem dy_M_go : y_M_go.cls ≠ "java/lang/invoke/MethodHandle" ∧ y_M_go.cls ≠ "java/lang/invoke/VarHandle" ∧ (parseMethodDescriptor y_M_go.desc).map (fun d => d.parameters.length) = some 2 := by decide +kernel
def y_M_nextFor : MethodName := ⟨"ClassifySortModel", "nextFor", "(IZ)I"⟩
theorem dy_M_nextFor : y_M_nextFor.cls ≠ "java/lang/invoke/MethodHandle" ∧ y_M_nextFor.cls ≠ "java/lang/invoke/VarHandle" ∧ (parseMethodDescriptor y_M_nextFor.desc).map (fun d => d.parameters.length) = some 2 := by decide +kernel
def y_M_isDirect : MethodName := ⟨"ClassifySortModel", "isDirect", "(II)Z"⟩
theorem dy_M_isDirect : y_M_isDirect.cls ≠ "java/lang/invoke/MethodHandle" ∧ y_M_isDirect.cls ≠ "java/lang/invoke/VarHandle" ∧ (parseMethodDescriptor y_M_isDirect.desc).map (fun d => d.parameters.length) = some 2 := by decide +kernel
def y_M_isUnder : MethodName := ⟨"ClassifySortModel", "isUnder", "(II)Z"⟩
theorem dy_M_isUnder : y_M_isUnder.cls ≠ "java/lang/invoke/MethodHandle" ∧ y_M_isUnder.cls ≠ "java/lang/invoke/VarHandle" ∧ (parseMethodDescriptor y_M_isUnder.desc).map (fun d => d.parameters.length) = some 2 := by decide +kernel
def y_M_parent : MethodName := ⟨"ClassifySortModel", "parent", "(II)I"⟩
theorem dy_M_parent : y_M_parent.cls ≠ "java/lang/invoke/MethodHandle" ∧ y_M_parent.cls ≠ "java/lang/invoke/VarHandle" ∧ (parseMethodDescriptor y_M_parent.desc).map (fun d => d.parameters.length) = some 2 := by decide +kernel
def y_M_isSecond : MethodName := ⟨"ClassifySortModel", "isSecond", "(I)Z"⟩
theorem dy_M_isSecond : y_M_isSecond.cls ≠ "java/lang/invoke/MethodHandle" ∧ y_M_isSecond.cls ≠ "java/lang/invoke/VarHandle" ∧ (parseMethodDescriptor y_M_isSecond.desc).map (fun d => d.parameters.length) = some 1 := by decide +kernel
def y_M_hasBelow : MethodName := ⟨"ClassifySortModel", "hasBelow", "(I)Z"⟩
theorem dy_M_hasBelow : y_M_hasBelow.cls ≠ "java/lang/invoke/MethodHandle" ∧ y_M_hasBelow.cls ≠ "java/lang/invoke/VarHandle" ∧ (parseMethodDescriptor y_M_hasBelow.desc).map (fun d => d.parameters.length) = some 1 := by decide +kernel
def y_M_child : MethodName := ⟨"ClassifySortModel", "child", "(II)I"⟩
theorem dy_M_child : y_M_child.cls ≠ "java/lang/invoke/MethodHandle" ∧ y_M_child.cls ≠ "java/lang/invoke/VarHandle" ∧ (parseMethodDescriptor y_M_child.desc).map (fun d => d.parameters.length) = some 2 := by decide +kernel
def y_M_equal : MethodName := ⟨"ClassifySortModel", "equal", "(II)I"⟩
theorem dy_M_equal : y_M_equal.cls ≠ "java/lang/invoke/MethodHandle" ∧ y_M_equal.cls ≠ "java/lang/invoke/VarHandle" ∧ (parseMethodDescriptor y_M_equal.desc).map (fun d => d.parameters.length) = some 2 := by decide +kernel
def y_M_empty : MethodName := ⟨"ClassifySortModel", "empty", "(I)I"⟩
theorem dy_M_empty : y_M_empty.cls ≠ "java/lang/invoke/MethodHandle" ∧ y_M_empty.cls ≠ "java/lang/invoke/VarHandle" ∧ (parseMethodDescriptor y_M_empty.desc).map (fun d => d.parameters.length) = some 1 := by decide +kernel
def y_M_open : MethodName := ⟨"ClassifySortModel", "open", "(I)I"⟩
theorem dy_M_open : y_M_open.cls ≠ "java/lang/invoke/MethodHandle" ∧ y_M_open.cls ≠ "java/lang/invoke/VarHandle" ∧ (parseMethodDescriptor y_M_open.desc).map (fun d => d.parameters.length) = some 1 := by decide +kernel
def y_M_put : MethodName := ⟨"ClassifySortModel", "put", "(II)I"⟩
theorem dy_M_put : y_M_put.cls ≠ "java/lang/invoke/MethodHandle" ∧ y_M_put.cls ≠ "java/lang/invoke/VarHandle" ∧ (parseMethodDescriptor y_M_put.desc).map (fun d => d.parameters.length) = some 2 := by decide +kernel
def y_M_type : MethodName := ⟨"ClassifySortModel", "type", "(II)I"⟩
theorem dy_M_type : y_M_type.cls ≠ "java/lang/invoke/MethodHandle" ∧ y_M_type.cls ≠ "java/lang/invoke/VarHandle" ∧ (parseMethodDescriptor y_M_type.desc).map (fun d => d.parameters.length) = some 2 := by decide +kernel
def y_M_reasonThing : MethodName := ⟨"ClassifySortModel", "reasonThing", "(II)I"⟩
theorem dy_M_reasonThing : y_M_reasonThing.cls ≠ "java/lang/invoke/MethodHandle" ∧ y_M_reasonThing.cls ≠ "java/lang/invoke/VarHandle" ∧ (parseMethodDescriptor y_M_reasonThing.desc).map (fun d => d.parameters.length) = some 2 := by decide +kernel
def y_M_isIn : MethodName := ⟨"ClassifySortModel", "isIn", "(II)Z"⟩
theorem dy_M_isIn : y_M_isIn.cls ≠ "java/lang/invoke/MethodHandle" ∧ y_M_isIn.cls ≠ "java/lang/invoke/VarHandle" ∧ (parseMethodDescriptor y_M_isIn.desc).map (fun d => d.parameters.length) = some 2 := by decide +kernel
def y_M_trace : MethodName := ⟨"ClassifySortModel", "trace", "(III)I"⟩
theorem dy_M_trace : y_M_trace.cls ≠ "java/lang/invoke/MethodHandle" ∧ y_M_trace.cls ≠ "java/lang/invoke/VarHandle" ∧ (parseMethodDescriptor y_M_trace.desc).map (fun d => d.parameters.length) = some 3 := by decide +kernel
def y_M_count : MethodName := ⟨"ClassifySortModel", "count", "(I)I"⟩
theorem dy_M_count : y_M_count.cls ≠ "java/lang/invoke/MethodHandle" ∧ y_M_count.cls ≠ "java/lang/invoke/VarHandle" ∧ (parseMethodDescriptor y_M_count.desc).map (fun d => d.parameters.length) = some 1 := by decide +kernel
def TsG : List Cond := [.laysFinal "ClassifySort" "ClassifySort" "axioms" "LClassifySort$Axioms;",
  .laysFinal "ClassifySort" "ClassifySort" "reasoner" "LClassifySort$Reasoner;",
  .laysFinal "ClassifySort" "ClassifySort" "knowledge" "LClassifySort$Knowledge;",
  .laysFinal "ClassifySort" "ClassifySort" "order" "LClassifySort$Order;",
  .laysFinal "ClassifySort" "ClassifySort" "toldClasses" "[I",
  .lays "ClassifySort" "ClassifySort" "classes" "I",
  .lays "ClassifySort" "ClassifySort" "things" "I",
  .lays "ClassifySort" "ClassifySort" "questions" "I",
  .lays "ClassifySort" "ClassifySort" "sorted" "Z",
  .laysFinal "ClassifySort$Axioms" "ClassifySort$Axioms" "lefts" "[I",
  .laysFinal "ClassifySort$Axioms" "ClassifySort$Axioms" "rights" "[I",
  .lays "ClassifySort$Axioms" "ClassifySort$Axioms" "made" "I",
  .lays "ClassifySort$Axioms" "ClassifySort$Axioms" "there" "I",
  .laysFinal "ClassifySort$Reasoner" "ClassifySort$Reasoner" "axioms" "LClassifySort$Axioms;",
  .laysFinal "ClassifySort$Reasoner" "ClassifySort$Reasoner" "fired" "[I",
  .lays "ClassifySort$Reasoner" "ClassifySort$Reasoner" "limit" "I",
  .lays "ClassifySort$Reasoner" "ClassifySort$Reasoner" "steps" "I",
  .lays "ClassifySort$Reasoner" "ClassifySort$Reasoner" "facts" "I",
  .laysFinal "ClassifySort$Knowledge" "ClassifySort$Knowledge" "above" "[I",
  .laysFinal "ClassifySort$Knowledge" "ClassifySort$Knowledge" "below" "[I",
  .laysFinal "ClassifySort$Knowledge" "ClassifySort$Knowledge" "notAbove" "[I",
  .laysFinal "ClassifySort$Knowledge" "ClassifySort$Knowledge" "undecided" "[I",
  .laysFinal "ClassifySort$Order" "ClassifySort$Order" "knowledge" "LClassifySort$Knowledge;",
  .laysFinal "ClassifySort$Order" "ClassifySort$Order" "reasoner" "LClassifySort$Reasoner;",
  .lays "ClassifySort$Order" "ClassifySort$Order" "placed" "I",
  .lays "ClassifySort$Order" "ClassifySort$Order" "empties" "I",
  .lays "ClassifySort$Order" "ClassifySort$Order" "asked" "I",
  .lays "ClassifySortModel" "ClassifySortModel" "thrown" "I",
  .lays "ClassifySortModel" "ClassifySortModel" "classes" "I",
  .lays "ClassifySortModel" "ClassifySortModel" "things" "I",
  .lays "ClassifySortModel" "ClassifySortModel" "axioms" "I",
  .lays "ClassifySortModel" "ClassifySortModel" "fuel" "I",
  .lays "ClassifySortModel" "ClassifySortModel" "questions" "I",
  .lays "ClassifySortModel" "ClassifySortModel" "sorted" "Z",
  .laysFinal "ClassifySortModel" "ClassifySortModel" "left" "[I",
  .laysFinal "ClassifySortModel" "ClassifySortModel" "other" "[I",
  .laysFinal "ClassifySortModel" "ClassifySortModel" "right" "[I",
  .laysFinal "ClassifySortModel" "ClassifySortModel" "there" "[Z",
  .laysFinal "ClassifySortModel" "ClassifySortModel" "member" "[Z",
  .laysFinal "ClassifySortModel" "ClassifySortModel" "state" "[I",
  .laysFinal "ClassifySortModel" "ClassifySortModel" "before" "[I",
  .laysFinal "ClassifySortModel" "ClassifySortModel" "placed" "[Z",
  .laysFinal "ClassifySortModel" "ClassifySortModel" "looked" "[Z",
  .laysFinal "ClassifySortModel" "ClassifySortModel" "fact" "[Z",
  .laysFinal "ClassifySortModel" "ClassifySortModel" "maker" "[I",
  .laysFinal "ClassifySortModel" "ClassifySortModel" "fired" "[I",
  .lays "ClassifySortModel" "ClassifySortModel" "firedCount" "I",
  .laysFinal "ClassifySortModel" "ClassifySortModel" "needed" "[Z",
  .laysFinal "ClassifySortModel" "ClassifySortModel" "module" "[Z",
  .lays "ClassifySortModel" "ClassifySortModel" "asked" "I",
  .fieldLink "ClassifySort" 45 "ClassifySort" "classes" "I",
  .fieldLink "ClassifySort" 28 "ClassifySort" "knowledge" "LClassifySort$Knowledge;",
  .fieldLink "ClassifySort$Knowledge" 9 "ClassifySort$Knowledge" "above" "[I",
  .code y_X_bit prog_1_method_24_code 1 (some .int),
  .initialized "ClassifySort",
  .static y_X_bit,
  .fieldLink "ClassifySort$Knowledge" 15 "ClassifySort$Knowledge" "below" "[I",
  .methodLink "ClassifySort" 74 y_X_bit,
  .code y_X_has prog_1_method_25_code 2 (some .boolean),
  .static y_X_has,
  .code y_XK_tellYes prog_3_method_11_code 6 none,
  .initialized "ClassifySort$Knowledge",
  .methodLink "ClassifySort$Knowledge" 28 y_XK_tellYes,
  .instanceMethod y_XK_tellYes,
  .selects "ClassifySort$Knowledge" y_XK_tellYes y_XK_tellYes,
  .fieldLink "ClassifySort$Knowledge" 18 "ClassifySort$Knowledge" "notAbove" "[I",
  .code y_XK_union prog_3_method_18_code 4 (some .int),
  .methodLink "ClassifySort$Knowledge" 39 y_XK_union,
  .static y_XK_union,
  .fieldLink "ClassifySort$Knowledge" 21 "ClassifySort$Knowledge" "undecided" "[I",
  .code y_XK_close prog_3_method_12_code 3 none,
  .methodLink "ClassifySort$Knowledge" 32 y_XK_close,
  .instanceMethod y_XK_close,
  .selects "ClassifySort$Knowledge" y_XK_close y_XK_close,
  .code y_XK_addClass prog_3_method_2_code 2 none,
  .methodLink "ClassifySort" 59 y_XK_addClass,
  .instanceMethod y_XK_addClass,
  .selects "ClassifySort$Knowledge" y_XK_addClass y_XK_addClass,
  .fieldLink "ClassifySort" 55 "ClassifySort" "sorted" "Z",
  .fieldLink "ClassifySort" 49 "ClassifySort" "things" "I",
  .code y_X_isClass prog_1_method_19_code 2 (some .boolean),
  .methodLink "ClassifySort" 63 y_X_isClass,
  .instanceMethod y_X_isClass,
  .selects "ClassifySort" y_X_isClass y_X_isClass,
  .code y_X_isGoal prog_1_method_21_code 2 (some .boolean),
  .methodLink "ClassifySort" 67 y_X_isGoal,
  .instanceMethod y_X_isGoal,
  .selects "ClassifySort" y_X_isGoal y_X_isGoal,
  .fieldLink "ClassifySort" 12 "ClassifySort" "axioms" "LClassifySort$Axioms;",
  .fieldLink "ClassifySort$Axioms" 18 "ClassifySort$Axioms" "made" "I",
  .code y_XA_isFull prog_2_method_2_code 1 (some .boolean),
  .initialized "ClassifySort$Axioms",
  .methodLink "ClassifySort" 70 y_XA_isFull,
  .instanceMethod y_XA_isFull,
  .selects "ClassifySort$Axioms" y_XA_isFull y_XA_isFull,
  .code y_X_slot prog_1_method_23_code 1 (some .int),
  .methodLink "ClassifySort" 78 y_X_slot,
  .static y_X_slot,
  .methodLink "ClassifySort$Axioms" 29 y_XA_isFull,
  .fieldLink "ClassifySort$Axioms" 9 "ClassifySort$Axioms" "lefts" "[I",
  .fieldLink "ClassifySort$Axioms" 15 "ClassifySort$Axioms" "rights" "[I",
  .fieldLink "ClassifySort$Axioms" 22 "ClassifySort$Axioms" "there" "I",
  .code y_XA_add prog_2_method_7_code 3 (some .int),
  .methodLink "ClassifySort" 81 y_XA_add,
  .instanceMethod y_XA_add,
  .selects "ClassifySort$Axioms" y_XA_add y_XA_add,
  .code y_XA_leftOf prog_2_method_5_code 2 (some .int),
  .methodLink "ClassifySort$Axioms" 25 y_XA_leftOf,
  .instanceMethod y_XA_leftOf,
  .selects "ClassifySort$Axioms" y_XA_leftOf y_XA_leftOf,
  .code y_XA_touchedBy prog_2_method_10_code 6 (some .int),
  .methodLink "ClassifySort" 85 y_XA_touchedBy,
  .instanceMethod y_XA_touchedBy,
  .selects "ClassifySort$Axioms" y_XA_touchedBy y_XA_touchedBy,
  .code y_XK_forgetNo prog_3_method_13_code 3 none,
  .methodLink "ClassifySort" 88 y_XK_forgetNo,
  .instanceMethod y_XK_forgetNo,
  .selects "ClassifySort$Knowledge" y_XK_forgetNo y_XK_forgetNo,
  .methodLink "ClassifySort" 182 y_XA_leftOf,
  .constant "java/lang/Integer" 267 (1431655765 : Int32),
  .constant "java/lang/Integer" 268 (858993459 : Int32),
  .constant "java/lang/Integer" 269 (252645135 : Int32),
  .code y_JI_bitCount prog_8_method_49_code 1 (some .int),
  .initialized "java/lang/Integer",
  .methodLink "ClassifySort" 152 y_JI_bitCount,
  .static y_JI_bitCount,
  .constant "java/lang/Integer" 266 (65536 : Int32),
  .code y_JI_numberOfTrailingZeros prog_8_method_48_code 2 (some .int),
  .methodLink "ClassifySort" 185 y_JI_numberOfTrailingZeros,
  .static y_JI_numberOfTrailingZeros,
  .code y_XA_rightOf prog_2_method_6_code 2 (some .int),
  .methodLink "ClassifySort" 188 y_XA_rightOf,
  .instanceMethod y_XA_rightOf,
  .selects "ClassifySort$Axioms" y_XA_rightOf y_XA_rightOf,
  .methodLink "ClassifySort" 191 y_XK_tellYes,
  .methodLink "ClassifySort" 195 y_XK_close,
  .code y_X_tellAxioms prog_1_method_22_code 3 none,
  .methodLink "ClassifySort" 91 y_X_tellAxioms,
  .instanceMethod y_X_tellAxioms,
  .selects "ClassifySort" y_X_tellAxioms y_X_tellAxioms,
  .code y_XA_isThere prog_2_method_3_code 2 (some .boolean),
  .methodLink "ClassifySort" 94 y_XA_isThere,
  .instanceMethod y_XA_isThere,
  .selects "ClassifySort$Axioms" y_XA_isThere y_XA_isThere,
  .methodLink "ClassifySort$Knowledge" 43 y_JI_bitCount,
  .code y_XK_knownPairs prog_3_method_16_code 4 (some .int),
  .methodLink "ClassifySort" 97 y_XK_knownPairs,
  .instanceMethod y_XK_knownPairs,
  .selects "ClassifySort$Knowledge" y_XK_knownPairs y_XK_knownPairs,
  .methodLink "ClassifySort$Axioms" 33 y_XA_isThere,
  .code y_XA_drop prog_2_method_8_code 2 none,
  .methodLink "ClassifySort" 100 y_XA_drop,
  .instanceMethod y_XA_drop,
  .selects "ClassifySort$Axioms" y_XA_drop y_XA_drop,
  .code y_XK_forgetYes prog_3_method_14_code 3 none,
  .methodLink "ClassifySort" 103 y_XK_forgetYes,
  .instanceMethod y_XK_forgetYes,
  .selects "ClassifySort$Knowledge" y_XK_forgetYes y_XK_forgetYes,
  .code y_XK_openPairs prog_3_method_17_code 4 (some .int),
  .methodLink "ClassifySort" 106 y_XK_openPairs,
  .instanceMethod y_XK_openPairs,
  .selects "ClassifySort$Knowledge" y_XK_openPairs y_XK_openPairs,
  .fieldLink "ClassifySort" 21 "ClassifySort" "reasoner" "LClassifySort$Reasoner;",
  .methodLink "ClassifySort$Reasoner" 29 Lib.Math.min.name,
  .static Lib.Math.min.name,
  .initialized "java/lang/Math",
  .code Lib.Math.min.name Lib.Math.min.code 2 (some .int),
  .methodLink "ClassifySort$Reasoner" 35 Lib.Math.max.name,
  .static Lib.Math.max.name,
  .code Lib.Math.max.name Lib.Math.max.code 2 (some .int),
  .fieldLink "ClassifySort$Reasoner" 15 "ClassifySort$Reasoner" "limit" "I",
  .code y_XR_fillUp prog_5_method_2_code 2 none,
  .initialized "ClassifySort$Reasoner",
  .methodLink "ClassifySort" 109 y_XR_fillUp,
  .instanceMethod y_XR_fillUp,
  .selects "ClassifySort$Reasoner" y_XR_fillUp y_XR_fillUp,
  .code y_XK_forgetOpen prog_3_method_15_code 2 none,
  .methodLink "ClassifySort" 112 y_XK_forgetOpen,
  .instanceMethod y_XK_forgetOpen,
  .selects "ClassifySort$Knowledge" y_XK_forgetOpen y_XK_forgetOpen,
  .code y_XK_of prog_3_method_3_code 3 (some .int),
  .methodLink "ClassifySort" 115 y_XK_of,
  .instanceMethod y_XK_of,
  .selects "ClassifySort$Knowledge" y_XK_of y_XK_of,
  .fieldLink "ClassifySort$Reasoner" 22 "ClassifySort$Reasoner" "facts" "I",
  .fieldLink "ClassifySort$Reasoner" 19 "ClassifySort$Reasoner" "steps" "I",
  .fieldLink "ClassifySort$Reasoner" 25 "ClassifySort$Reasoner" "axioms" "LClassifySort$Axioms;",
  .code y_XA_firstThatFires prog_2_method_9_code 4 (some .int),
  .methodLink "ClassifySort$Reasoner" 42 y_XA_firstThatFires,
  .instanceMethod y_XA_firstThatFires,
  .selects "ClassifySort$Axioms" y_XA_firstThatFires y_XA_firstThatFires,
  .fieldLink "ClassifySort$Reasoner" 9 "ClassifySort$Reasoner" "fired" "[I",
  .methodLink "ClassifySort$Reasoner" 47 y_XA_rightOf,
  .code y_XR_decide prog_5_method_5_code 6 (some .int),
  .methodLink "ClassifySort" 118 y_XR_decide,
  .instanceMethod y_XR_decide,
  .selects "ClassifySort$Reasoner" y_XR_decide y_XR_decide,
  .fieldLink "ClassifySort" 37 "ClassifySort" "order" "LClassifySort$Order;",
  .fieldLink "ClassifySort$Order" 9 "ClassifySort$Order" "placed" "I",
  .fieldLink "ClassifySort$Order" 15 "ClassifySort$Order" "empties" "I",
  .fieldLink "ClassifySort$Order" 18 "ClassifySort$Order" "asked" "I",
  .fieldLink "ClassifySort$Order" 21 "ClassifySort$Order" "knowledge" "LClassifySort$Knowledge;",
  .methodLink "ClassifySort$Order" 48 y_XK_of,
  .fieldLink "ClassifySort$Order" 25 "ClassifySort$Order" "reasoner" "LClassifySort$Reasoner;",
  .methodLink "ClassifySort$Order" 53 y_XR_decide,
  .code y_XK_learn prog_3_method_10_code 4 none,
  .methodLink "ClassifySort$Order" 58 y_XK_learn,
  .instanceMethod y_XK_learn,
  .selects "ClassifySort$Knowledge" y_XK_learn y_XK_learn,
  .code y_XO_answer prog_4_method_6_code 3 (some .int),
  .initialized "ClassifySort$Order",
  .methodLink "ClassifySort$Order" 33 y_XO_answer,
  .instanceMethod y_XO_answer,
  .selects "ClassifySort$Order" y_XO_answer y_XO_answer,
  .code y_XK_allAbove prog_3_method_4_code 2 (some .int),
  .methodLink "ClassifySort$Order" 68 y_XK_allAbove,
  .instanceMethod y_XK_allAbove,
  .selects "ClassifySort$Knowledge" y_XK_allAbove y_XK_allAbove,
  .code y_XK_strictlyAbove prog_3_method_6_code 2 (some .int),
  .methodLink "ClassifySort$Order" 71 y_XK_strictlyAbove,
  .instanceMethod y_XK_strictlyAbove,
  .selects "ClassifySort$Knowledge" y_XK_strictlyAbove y_XK_strictlyAbove,
  .code y_XO_nextDown prog_4_method_9_code 5 (some .int),
  .methodLink "ClassifySort$Order" 62 y_XO_nextDown,
  .instanceMethod y_XO_nextDown,
  .selects "ClassifySort$Order" y_XO_nextDown y_XO_nextDown,
  .code y_XO_searchDown prog_4_method_7_code 5 none,
  .methodLink "ClassifySort$Order" 41 y_XO_searchDown,
  .instanceMethod y_XO_searchDown,
  .selects "ClassifySort$Order" y_XO_searchDown y_XO_searchDown,
  .code y_XK_allBelow prog_3_method_5_code 2 (some .int),
  .methodLink "ClassifySort$Order" 74 y_XK_allBelow,
  .instanceMethod y_XK_allBelow,
  .selects "ClassifySort$Knowledge" y_XK_allBelow y_XK_allBelow,
  .code y_XK_strictlyBelow prog_3_method_7_code 2 (some .int),
  .methodLink "ClassifySort$Order" 77 y_XK_strictlyBelow,
  .instanceMethod y_XK_strictlyBelow,
  .selects "ClassifySort$Knowledge" y_XK_strictlyBelow y_XK_strictlyBelow,
  .code y_XO_nextUp prog_4_method_10_code 6 (some .int),
  .methodLink "ClassifySort$Order" 65 y_XO_nextUp,
  .instanceMethod y_XO_nextUp,
  .selects "ClassifySort$Order" y_XO_nextUp y_XO_nextUp,
  .code y_XO_searchUp prog_4_method_8_code 5 none,
  .methodLink "ClassifySort$Order" 45 y_XO_searchUp,
  .instanceMethod y_XO_searchUp,
  .selects "ClassifySort$Order" y_XO_searchUp y_XO_searchUp,
  .code y_XO_sort prog_4_method_5_code 3 (some .int),
  .methodLink "ClassifySort" 121 y_XO_sort,
  .instanceMethod y_XO_sort,
  .selects "ClassifySort$Order" y_XO_sort y_XO_sort,
  .fieldLink "ClassifySort" 52 "ClassifySort" "questions" "I",
  .code y_XO_isEmptyClass prog_4_method_4_code 2 (some .boolean),
  .methodLink "ClassifySort" 124 y_XO_isEmptyClass,
  .instanceMethod y_XO_isEmptyClass,
  .selects "ClassifySort$Order" y_XO_isEmptyClass y_XO_isEmptyClass,
  .code y_XK_sameAs prog_3_method_8_code 2 (some .int),
  .methodLink "ClassifySort$Order" 86 y_XK_sameAs,
  .instanceMethod y_XK_sameAs,
  .selects "ClassifySort$Knowledge" y_XK_sameAs y_XK_sameAs,
  .code y_XO_firstOfSame prog_4_method_15_code 4 (some .int),
  .methodLink "ClassifySort" 134 y_XO_firstOfSame,
  .instanceMethod y_XO_firstOfSame,
  .selects "ClassifySort$Order" y_XO_firstOfSame y_XO_firstOfSame,
  .methodLink "ClassifySort" 160 y_X_has,
  .code y_X_pick prog_1_method_26_code 4 (some .int),
  .methodLink "ClassifySort" 137 y_X_pick,
  .static y_X_pick,
  .code y_XO_directlyAbove prog_4_method_11_code 5 (some .int),
  .methodLink "ClassifySort" 131 y_XO_directlyAbove,
  .instanceMethod y_XO_directlyAbove,
  .selects "ClassifySort$Order" y_XO_directlyAbove y_XO_directlyAbove,
  .code y_XO_directlyBelow prog_4_method_12_code 5 (some .int),
  .methodLink "ClassifySort$Order" 83 y_XO_directlyBelow,
  .instanceMethod y_XO_directlyBelow,
  .selects "ClassifySort$Order" y_XO_directlyBelow y_XO_directlyBelow,
  .code y_XO_lowestAmong prog_4_method_14_code 4 (some .int),
  .methodLink "ClassifySort$Order" 80 y_XO_lowestAmong,
  .instanceMethod y_XO_lowestAmong,
  .selects "ClassifySort$Order" y_XO_lowestAmong y_XO_lowestAmong,
  .code y_XO_lowest prog_4_method_13_code 1 (some .int),
  .methodLink "ClassifySort" 127 y_XO_lowest,
  .instanceMethod y_XO_lowest,
  .selects "ClassifySort$Order" y_XO_lowest y_XO_lowest,
  .methodLink "ClassifySort" 140 y_XO_directlyBelow,
  .methodLink "ClassifySort" 143 y_XK_sameAs,
  .code y_XO_emptyClasses prog_4_method_3_code 1 (some .int),
  .methodLink "ClassifySort" 146 y_XO_emptyClasses,
  .instanceMethod y_XO_emptyClasses,
  .selects "ClassifySort$Order" y_XO_emptyClasses y_XO_emptyClasses,
  .code y_XK_openOf prog_3_method_9_code 2 (some .int),
  .methodLink "ClassifySort" 149 y_XK_openOf,
  .instanceMethod y_XK_openOf,
  .selects "ClassifySort$Knowledge" y_XK_openOf y_XK_openOf,
  .code y_X_isThing prog_1_method_20_code 2 (some .boolean),
  .methodLink "ClassifySort" 157 y_X_isThing,
  .instanceMethod y_X_isThing,
  .selects "ClassifySort" y_X_isThing y_X_isThing,
  .fieldLink "ClassifySort" 41 "ClassifySort" "toldClasses" "[I",
  .code y_XR_facts prog_5_method_3_code 1 (some .int),
  .methodLink "ClassifySort" 164 y_XR_facts,
  .instanceMethod y_XR_facts,
  .selects "ClassifySort$Reasoner" y_XR_facts y_XR_facts,
  .methodLink "ClassifySort" 167 y_XO_lowestAmong,
  .methodLink "ClassifySort$Reasoner" 54 y_XA_leftOf,
  .code y_XR_neededSteps prog_5_method_6_code 4 (some .int),
  .methodLink "ClassifySort" 170 y_XR_neededSteps,
  .instanceMethod y_XR_neededSteps,
  .selects "ClassifySort$Reasoner" y_XR_neededSteps y_XR_neededSteps,
  .code y_XR_firedAt prog_5_method_4_code 2 (some .int),
  .methodLink "ClassifySort" 173 y_XR_firedAt,
  .instanceMethod y_XR_firedAt,
  .selects "ClassifySort$Reasoner" y_XR_firedAt y_XR_firedAt,
  .code y_XA_thereNow prog_2_method_4_code 1 (some .int),
  .methodLink "ClassifySort" 176 y_XA_thereNow,
  .instanceMethod y_XA_thereNow,
  .selects "ClassifySort$Axioms" y_XA_thereNow y_XA_thereNow,
  .code y_XO_placedClasses prog_4_method_2_code 1 (some .int),
  .methodLink "ClassifySort" 179 y_XO_placedClasses,
  .instanceMethod y_XO_placedClasses,
  .selects "ClassifySort$Order" y_XO_placedClasses y_XO_placedClasses,
  .fieldLink "ClassifySortModel" 60 "ClassifySortModel" "classes" "I",
  .fieldLink "ClassifySortModel" 97 "ClassifySortModel" "sorted" "Z",
  .fieldLink "ClassifySortModel" 67 "ClassifySortModel" "axioms" "I",
  .fieldLink "ClassifySortModel" 23 "ClassifySortModel" "there" "[Z",
  .fieldLink "ClassifySortModel" 13 "ClassifySortModel" "left" "[I",
  .fieldLink "ClassifySortModel" 17 "ClassifySortModel" "other" "[I",
  .fieldLink "ClassifySortModel" 20 "ClassifySortModel" "right" "[I",
  .code y_M_isItself prog_7_method_6_code 5 (some .boolean),
  .initialized "ClassifySortModel",
  .methodLink "ClassifySortModel" 70 y_M_isItself,
  .instanceMethod y_M_isItself,
  .selects "ClassifySortModel" y_M_isItself y_M_isItself,
  .fieldLink "ClassifySortModel" 30 "ClassifySortModel" "state" "[I",
  .code y_M_tellItself prog_7_method_7_code 3 none,
  .methodLink "ClassifySortModel" 83 y_M_tellItself,
  .instanceMethod y_M_tellItself,
  .selects "ClassifySortModel" y_M_tellItself y_M_tellItself,
  .code y_M_isHere prog_7_method_8_code 2 (some .boolean),
  .methodLink "ClassifySortModel" 74 y_M_isHere,
  .instanceMethod y_M_isHere,
  .selects "ClassifySortModel" y_M_isHere y_M_isHere,
  .code y_M_below prog_7_method_5_code 3 (some .boolean),
  .methodLink "ClassifySortModel" 77 y_M_below,
  .instanceMethod y_M_below,
  .selects "ClassifySortModel" y_M_below y_M_below,
  .code y_M_spreadNo prog_7_method_10_code 7 (some .boolean),
  .methodLink "ClassifySortModel" 80 y_M_spreadNo,
  .instanceMethod y_M_spreadNo,
  .selects "ClassifySortModel" y_M_spreadNo y_M_spreadNo,
  .code y_M_closeOnce prog_7_method_9_code 5 (some .boolean),
  .methodLink "ClassifySortModel" 86 y_M_closeOnce,
  .instanceMethod y_M_closeOnce,
  .selects "ClassifySortModel" y_M_closeOnce y_M_closeOnce,
  .code y_M_close prog_7_method_11_code 2 none,
  .methodLink "ClassifySortModel" 101 y_M_close,
  .instanceMethod y_M_close,
  .selects "ClassifySortModel" y_M_close y_M_close,
  .fieldLink "ClassifySortModel" 104 "ClassifySortModel" "things" "I",
  .code y_M_isClass prog_7_method_3_code 2 (some .boolean),
  .methodLink "ClassifySortModel" 63 y_M_isClass,
  .instanceMethod y_M_isClass,
  .selects "ClassifySortModel" y_M_isClass y_M_isClass,
  .fieldLink "ClassifySortModel" 54 "ClassifySortModel" "module" "[Z",
  .code y_M_isTouched prog_7_method_17_code 7 (some .boolean),
  .methodLink "ClassifySortModel" 107 y_M_isTouched,
  .instanceMethod y_M_isTouched,
  .selects "ClassifySortModel" y_M_isTouched y_M_isTouched,
  .code y_M_forget prog_7_method_18_code 6 none,
  .methodLink "ClassifySortModel" 110 y_M_forget,
  .instanceMethod y_M_forget,
  .selects "ClassifySortModel" y_M_forget y_M_forget,
  .fieldLink "ClassifySortModel" 33 "ClassifySortModel" "before" "[I",
  .code y_M_openPairs prog_7_method_21_code 3 (some .int),
  .methodLink "ClassifySortModel" 114 y_M_openPairs,
  .instanceMethod y_M_openPairs,
  .selects "ClassifySortModel" y_M_openPairs y_M_openPairs,
  .fieldLink "ClassifySortModel" 7 "ClassifySortModel" "fuel" "I",
  .code y_M_goalOf prog_7_method_4_code 2 (some .int),
  .methodLink "ClassifySortModel" 118 y_M_goalOf,
  .instanceMethod y_M_goalOf,
  .selects "ClassifySortModel" y_M_goalOf y_M_goalOf,
  .fieldLink "ClassifySortModel" 42 "ClassifySortModel" "fact" "[Z",
  .fieldLink "ClassifySortModel" 90 "ClassifySortModel" "firedCount" "I",
  .fieldLink "ClassifySortModel" 45 "ClassifySortModel" "maker" "[I",
  .fieldLink "ClassifySortModel" 48 "ClassifySortModel" "fired" "[I",
  .code y_M_reason prog_7_method_12_code 5 (some .int),
  .methodLink "ClassifySortModel" 93 y_M_reason,
  .instanceMethod y_M_reason,
  .selects "ClassifySortModel" y_M_reason y_M_reason,
  .code y_M_reasonAlone prog_7_method_13_code 4 (some .int),
  .methodLink "ClassifySortModel" 121 y_M_reasonAlone,
  .instanceMethod y_M_reasonAlone,
  .selects "ClassifySortModel" y_M_reasonAlone y_M_reasonAlone,
  .fieldLink "ClassifySortModel" 125 "ClassifySortModel" "asked" "I",
  .fieldLink "ClassifySortModel" 36 "ClassifySortModel" "placed" "[Z",
  .code y_M_look prog_7_method_25_code 3 (some .boolean),
  .methodLink "ClassifySortModel" 138 y_M_look,
  .instanceMethod y_M_look,
  .selects "ClassifySortModel" y_M_look y_M_look,
  .fieldLink "ClassifySortModel" 39 "ClassifySortModel" "looked" "[Z",
  .code y_M_isUnder prog_7_method_26_code 3 (some .boolean),
  .methodLink "ClassifySortModel" 128 y_M_isUnder,
  .instanceMethod y_M_isUnder,
  .selects "ClassifySortModel" y_M_isUnder y_M_isUnder,
  .code y_M_isDirect prog_7_method_27_code 5 (some .boolean),
  .methodLink "ClassifySortModel" 131 y_M_isDirect,
  .instanceMethod y_M_isDirect,
  .selects "ClassifySortModel" y_M_isDirect y_M_isDirect,
  .code y_M_nextFor prog_7_method_28_code 7 (some .int),
  .methodLink "ClassifySortModel" 134 y_M_nextFor,
  .instanceMethod y_M_nextFor,
  .selects "ClassifySortModel" y_M_nextFor y_M_nextFor,
  .code y_M_go prog_7_method_29_code 5 none,
  .methodLink "ClassifySortModel" 141 y_M_go,
  .instanceMethod y_M_go,
  .selects "ClassifySortModel" y_M_go y_M_go,
  .fieldLink "ClassifySortModel" 145 "ClassifySortModel" "questions" "I",
  .code y_M_isSecond prog_7_method_31_code 4 (some .boolean),
  .methodLink "ClassifySortModel" 148 y_M_isSecond,
  .instanceMethod y_M_isSecond,
  .selects "ClassifySortModel" y_M_isSecond y_M_isSecond,
  .code y_M_hasBelow prog_7_method_32_code 4 (some .boolean),
  .methodLink "ClassifySortModel" 151 y_M_hasBelow,
  .instanceMethod y_M_hasBelow,
  .selects "ClassifySortModel" y_M_hasBelow y_M_hasBelow,
  .fieldLink "ClassifySortModel" 27 "ClassifySortModel" "member" "[Z",
  .code y_M_reasonThing prog_7_method_14_code 4 (some .int),
  .methodLink "ClassifySortModel" 154 y_M_reasonThing,
  .instanceMethod y_M_reasonThing,
  .selects "ClassifySortModel" y_M_reasonThing y_M_reasonThing,
  .code y_M_isIn prog_7_method_39_code 3 (some .boolean),
  .methodLink "ClassifySortModel" 157 y_M_isIn,
  .instanceMethod y_M_isIn,
  .selects "ClassifySortModel" y_M_isIn y_M_isIn,
  .fieldLink "ClassifySortModel" 51 "ClassifySortModel" "needed" "[Z"]
def NsG : jNt := [("ClassifySort$Knowledge", 24, y_X_bit, "ClassifySort"),
  ("ClassifySort$Knowledge", 35, y_X_has, "ClassifySort"),
  ("ClassifySort$Axioms", 41, y_X_bit, "ClassifySort"),
  ("ClassifySort$Reasoner", 38, y_X_bit, "ClassifySort"),
  ("ClassifySort$Axioms", 37, y_X_has, "ClassifySort"),
  ("ClassifySort$Order", 37, y_X_bit, "ClassifySort"),
  ("ClassifySort$Order", 29, y_X_has, "ClassifySort"),
  ("ClassifySort$Reasoner", 50, y_X_has, "ClassifySort")]
theorem ns_0 : (("ClassifySort$Knowledge", 24, y_X_bit, "ClassifySort") : String × Nat × MethodName × String) ∈ NsG := List.mem_of_getElem? (i := 0) rfl
theorem ns_1 : (("ClassifySort$Knowledge", 35, y_X_has, "ClassifySort") : String × Nat × MethodName × String) ∈ NsG := List.mem_of_getElem? (i := 1) rfl
theorem ns_2 : (("ClassifySort$Axioms", 41, y_X_bit, "ClassifySort") : String × Nat × MethodName × String) ∈ NsG := List.mem_of_getElem? (i := 2) rfl
theorem ns_3 : (("ClassifySort$Reasoner", 38, y_X_bit, "ClassifySort") : String × Nat × MethodName × String) ∈ NsG := List.mem_of_getElem? (i := 3) rfl
theorem ns_4 : (("ClassifySort$Axioms", 37, y_X_has, "ClassifySort") : String × Nat × MethodName × String) ∈ NsG := List.mem_of_getElem? (i := 4) rfl
theorem ns_5 : (("ClassifySort$Order", 37, y_X_bit, "ClassifySort") : String × Nat × MethodName × String) ∈ NsG := List.mem_of_getElem? (i := 5) rfl
theorem ns_6 : (("ClassifySort$Order", 29, y_X_has, "ClassifySort") : String × Nat × MethodName × String) ∈ NsG := List.mem_of_getElem? (i := 6) rfl
theorem ns_7 : (("ClassifySort$Reasoner", 50, y_X_has, "ClassifySort") : String × Nat × MethodName × String) ∈ NsG := List.mem_of_getElem? (i := 7) rfl
theorem ts_good : ∀ w ∈ TsG, (w.onTables && w.keeps) = true ∨ ∃ ty, w = .arrayClass ty := fun w hw => good_of_word (List.all_eq_true.mp (by decide +kernel : TsG.all goodWord = true) w hw)
theorem ts_0 : Cond.fieldLink "ClassifySort" 45 "ClassifySort" "classes" "I" ∈ TsG := List.mem_of_getElem? (i := 50) rfl
theorem ts_1 : Cond.fieldLink "ClassifySort" 28 "ClassifySort" "knowledge" "LClassifySort$Knowledge;" ∈ TsG := List.mem_of_getElem? (i := 51) rfl
theorem ts_2 : Cond.fieldLink "ClassifySort$Knowledge" 9 "ClassifySort$Knowledge" "above" "[I" ∈ TsG := List.mem_of_getElem? (i := 52) rfl
theorem ts_3 : Cond.code y_X_bit prog_1_method_24_code 1 (some .int) ∈ TsG := List.mem_of_getElem? (i := 53) rfl
theorem ts_4 : Cond.initialized "ClassifySort" ∈ TsG := List.mem_of_getElem? (i := 54) rfl
theorem ts_5 : Cond.static y_X_bit ∈ TsG := List.mem_of_getElem? (i := 55) rfl
theorem ts_6 : Cond.fieldLink "ClassifySort$Knowledge" 15 "ClassifySort$Knowledge" "below" "[I" ∈ TsG := List.mem_of_getElem? (i := 56) rfl
theorem ts_7 : Cond.methodLink "ClassifySort" 74 y_X_bit ∈ TsG := List.mem_of_getElem? (i := 57) rfl
theorem ts_8 : Cond.code y_X_has prog_1_method_25_code 2 (some .boolean) ∈ TsG := List.mem_of_getElem? (i := 58) rfl
theorem ts_9 : Cond.static y_X_has ∈ TsG := List.mem_of_getElem? (i := 59) rfl
theorem ts_10 : Cond.code y_XK_tellYes prog_3_method_11_code 6 none ∈ TsG := List.mem_of_getElem? (i := 60) rfl
theorem ts_11 : Cond.initialized "ClassifySort$Knowledge" ∈ TsG := List.mem_of_getElem? (i := 61) rfl
theorem ts_12 : Cond.methodLink "ClassifySort$Knowledge" 28 y_XK_tellYes ∈ TsG := List.mem_of_getElem? (i := 62) rfl
theorem ts_13 : Cond.instanceMethod y_XK_tellYes ∈ TsG := List.mem_of_getElem? (i := 63) rfl
theorem ts_14 : Cond.selects "ClassifySort$Knowledge" y_XK_tellYes y_XK_tellYes ∈ TsG := List.mem_of_getElem? (i := 64) rfl
theorem ts_15 : Cond.fieldLink "ClassifySort$Knowledge" 18 "ClassifySort$Knowledge" "notAbove" "[I" ∈ TsG := List.mem_of_getElem? (i := 65) rfl
theorem ts_16 : Cond.code y_XK_union prog_3_method_18_code 4 (some .int) ∈ TsG := List.mem_of_getElem? (i := 66) rfl
theorem ts_17 : Cond.methodLink "ClassifySort$Knowledge" 39 y_XK_union ∈ TsG := List.mem_of_getElem? (i := 67) rfl
theorem ts_18 : Cond.static y_XK_union ∈ TsG := List.mem_of_getElem? (i := 68) rfl
theorem ts_19 : Cond.fieldLink "ClassifySort$Knowledge" 21 "ClassifySort$Knowledge" "undecided" "[I" ∈ TsG := List.mem_of_getElem? (i := 69) rfl
theorem ts_20 : Cond.code y_XK_close prog_3_method_12_code 3 none ∈ TsG := List.mem_of_getElem? (i := 70) rfl
theorem ts_21 : Cond.methodLink "ClassifySort$Knowledge" 32 y_XK_close ∈ TsG := List.mem_of_getElem? (i := 71) rfl
theorem ts_22 : Cond.instanceMethod y_XK_close ∈ TsG := List.mem_of_getElem? (i := 72) rfl
theorem ts_23 : Cond.selects "ClassifySort$Knowledge" y_XK_close y_XK_close ∈ TsG := List.mem_of_getElem? (i := 73) rfl
theorem ts_24 : Cond.code y_XK_addClass prog_3_method_2_code 2 none ∈ TsG := List.mem_of_getElem? (i := 74) rfl
theorem ts_25 : Cond.methodLink "ClassifySort" 59 y_XK_addClass ∈ TsG := List.mem_of_getElem? (i := 75) rfl
theorem ts_26 : Cond.instanceMethod y_XK_addClass ∈ TsG := List.mem_of_getElem? (i := 76) rfl
theorem ts_27 : Cond.selects "ClassifySort$Knowledge" y_XK_addClass y_XK_addClass ∈ TsG := List.mem_of_getElem? (i := 77) rfl
theorem ts_28 : Cond.fieldLink "ClassifySort" 55 "ClassifySort" "sorted" "Z" ∈ TsG := List.mem_of_getElem? (i := 78) rfl
theorem ts_29 : Cond.fieldLink "ClassifySort" 49 "ClassifySort" "things" "I" ∈ TsG := List.mem_of_getElem? (i := 79) rfl
theorem ts_30 : Cond.code y_X_isClass prog_1_method_19_code 2 (some .boolean) ∈ TsG := List.mem_of_getElem? (i := 80) rfl
theorem ts_31 : Cond.methodLink "ClassifySort" 63 y_X_isClass ∈ TsG := List.mem_of_getElem? (i := 81) rfl
theorem ts_32 : Cond.instanceMethod y_X_isClass ∈ TsG := List.mem_of_getElem? (i := 82) rfl
theorem ts_33 : Cond.selects "ClassifySort" y_X_isClass y_X_isClass ∈ TsG := List.mem_of_getElem? (i := 83) rfl
theorem ts_34 : Cond.code y_X_isGoal prog_1_method_21_code 2 (some .boolean) ∈ TsG := List.mem_of_getElem? (i := 84) rfl
theorem ts_35 : Cond.methodLink "ClassifySort" 67 y_X_isGoal ∈ TsG := List.mem_of_getElem? (i := 85) rfl
theorem ts_36 : Cond.instanceMethod y_X_isGoal ∈ TsG := List.mem_of_getElem? (i := 86) rfl
theorem ts_37 : Cond.selects "ClassifySort" y_X_isGoal y_X_isGoal ∈ TsG := List.mem_of_getElem? (i := 87) rfl
theorem ts_38 : Cond.fieldLink "ClassifySort" 12 "ClassifySort" "axioms" "LClassifySort$Axioms;" ∈ TsG := List.mem_of_getElem? (i := 88) rfl
theorem ts_39 : Cond.fieldLink "ClassifySort$Axioms" 18 "ClassifySort$Axioms" "made" "I" ∈ TsG := List.mem_of_getElem? (i := 89) rfl
theorem ts_40 : Cond.code y_XA_isFull prog_2_method_2_code 1 (some .boolean) ∈ TsG := List.mem_of_getElem? (i := 90) rfl
theorem ts_41 : Cond.initialized "ClassifySort$Axioms" ∈ TsG := List.mem_of_getElem? (i := 91) rfl
theorem ts_42 : Cond.methodLink "ClassifySort" 70 y_XA_isFull ∈ TsG := List.mem_of_getElem? (i := 92) rfl
theorem ts_43 : Cond.instanceMethod y_XA_isFull ∈ TsG := List.mem_of_getElem? (i := 93) rfl
theorem ts_44 : Cond.selects "ClassifySort$Axioms" y_XA_isFull y_XA_isFull ∈ TsG := List.mem_of_getElem? (i := 94) rfl
theorem ts_45 : Cond.code y_X_slot prog_1_method_23_code 1 (some .int) ∈ TsG := List.mem_of_getElem? (i := 95) rfl
theorem ts_46 : Cond.methodLink "ClassifySort" 78 y_X_slot ∈ TsG := List.mem_of_getElem? (i := 96) rfl
theorem ts_47 : Cond.static y_X_slot ∈ TsG := List.mem_of_getElem? (i := 97) rfl
theorem ts_48 : Cond.methodLink "ClassifySort$Axioms" 29 y_XA_isFull ∈ TsG := List.mem_of_getElem? (i := 98) rfl
theorem ts_49 : Cond.fieldLink "ClassifySort$Axioms" 9 "ClassifySort$Axioms" "lefts" "[I" ∈ TsG := List.mem_of_getElem? (i := 99) rfl
theorem ts_50 : Cond.fieldLink "ClassifySort$Axioms" 15 "ClassifySort$Axioms" "rights" "[I" ∈ TsG := List.mem_of_getElem? (i := 100) rfl
theorem ts_51 : Cond.fieldLink "ClassifySort$Axioms" 22 "ClassifySort$Axioms" "there" "I" ∈ TsG := List.mem_of_getElem? (i := 101) rfl
theorem ts_52 : Cond.code y_XA_add prog_2_method_7_code 3 (some .int) ∈ TsG := List.mem_of_getElem? (i := 102) rfl
theorem ts_53 : Cond.methodLink "ClassifySort" 81 y_XA_add ∈ TsG := List.mem_of_getElem? (i := 103) rfl
theorem ts_54 : Cond.instanceMethod y_XA_add ∈ TsG := List.mem_of_getElem? (i := 104) rfl
theorem ts_55 : Cond.selects "ClassifySort$Axioms" y_XA_add y_XA_add ∈ TsG := List.mem_of_getElem? (i := 105) rfl
theorem ts_56 : Cond.code y_XA_leftOf prog_2_method_5_code 2 (some .int) ∈ TsG := List.mem_of_getElem? (i := 106) rfl
theorem ts_57 : Cond.methodLink "ClassifySort$Axioms" 25 y_XA_leftOf ∈ TsG := List.mem_of_getElem? (i := 107) rfl
theorem ts_58 : Cond.instanceMethod y_XA_leftOf ∈ TsG := List.mem_of_getElem? (i := 108) rfl
theorem ts_59 : Cond.selects "ClassifySort$Axioms" y_XA_leftOf y_XA_leftOf ∈ TsG := List.mem_of_getElem? (i := 109) rfl
theorem ts_60 : Cond.code y_XA_touchedBy prog_2_method_10_code 6 (some .int) ∈ TsG := List.mem_of_getElem? (i := 110) rfl
theorem ts_61 : Cond.methodLink "ClassifySort" 85 y_XA_touchedBy ∈ TsG := List.mem_of_getElem? (i := 111) rfl
theorem ts_62 : Cond.instanceMethod y_XA_touchedBy ∈ TsG := List.mem_of_getElem? (i := 112) rfl
theorem ts_63 : Cond.selects "ClassifySort$Axioms" y_XA_touchedBy y_XA_touchedBy ∈ TsG := List.mem_of_getElem? (i := 113) rfl
theorem ts_64 : Cond.code y_XK_forgetNo prog_3_method_13_code 3 none ∈ TsG := List.mem_of_getElem? (i := 114) rfl
theorem ts_65 : Cond.methodLink "ClassifySort" 88 y_XK_forgetNo ∈ TsG := List.mem_of_getElem? (i := 115) rfl
theorem ts_66 : Cond.instanceMethod y_XK_forgetNo ∈ TsG := List.mem_of_getElem? (i := 116) rfl
theorem ts_67 : Cond.selects "ClassifySort$Knowledge" y_XK_forgetNo y_XK_forgetNo ∈ TsG := List.mem_of_getElem? (i := 117) rfl
theorem ts_68 : Cond.methodLink "ClassifySort" 182 y_XA_leftOf ∈ TsG := List.mem_of_getElem? (i := 118) rfl
theorem ts_69 : Cond.constant "java/lang/Integer" 267 (1431655765 : Int32) ∈ TsG := List.mem_of_getElem? (i := 119) rfl
theorem ts_70 : Cond.constant "java/lang/Integer" 268 (858993459 : Int32) ∈ TsG := List.mem_of_getElem? (i := 120) rfl
theorem ts_71 : Cond.constant "java/lang/Integer" 269 (252645135 : Int32) ∈ TsG := List.mem_of_getElem? (i := 121) rfl
theorem ts_72 : Cond.code y_JI_bitCount prog_8_method_49_code 1 (some .int) ∈ TsG := List.mem_of_getElem? (i := 122) rfl
theorem ts_73 : Cond.initialized "java/lang/Integer" ∈ TsG := List.mem_of_getElem? (i := 123) rfl
theorem ts_74 : Cond.methodLink "ClassifySort" 152 y_JI_bitCount ∈ TsG := List.mem_of_getElem? (i := 124) rfl
theorem ts_75 : Cond.static y_JI_bitCount ∈ TsG := List.mem_of_getElem? (i := 125) rfl
theorem ts_76 : Cond.constant "java/lang/Integer" 266 (65536 : Int32) ∈ TsG := List.mem_of_getElem? (i := 126) rfl
theorem ts_77 : Cond.code y_JI_numberOfTrailingZeros prog_8_method_48_code 2 (some .int) ∈ TsG := List.mem_of_getElem? (i := 127) rfl
theorem ts_78 : Cond.methodLink "ClassifySort" 185 y_JI_numberOfTrailingZeros ∈ TsG := List.mem_of_getElem? (i := 128) rfl
theorem ts_79 : Cond.static y_JI_numberOfTrailingZeros ∈ TsG := List.mem_of_getElem? (i := 129) rfl
theorem ts_80 : Cond.code y_XA_rightOf prog_2_method_6_code 2 (some .int) ∈ TsG := List.mem_of_getElem? (i := 130) rfl
theorem ts_81 : Cond.methodLink "ClassifySort" 188 y_XA_rightOf ∈ TsG := List.mem_of_getElem? (i := 131) rfl
theorem ts_82 : Cond.instanceMethod y_XA_rightOf ∈ TsG := List.mem_of_getElem? (i := 132) rfl
theorem ts_83 : Cond.selects "ClassifySort$Axioms" y_XA_rightOf y_XA_rightOf ∈ TsG := List.mem_of_getElem? (i := 133) rfl
theorem ts_84 : Cond.methodLink "ClassifySort" 191 y_XK_tellYes ∈ TsG := List.mem_of_getElem? (i := 134) rfl
theorem ts_85 : Cond.methodLink "ClassifySort" 195 y_XK_close ∈ TsG := List.mem_of_getElem? (i := 135) rfl
theorem ts_86 : Cond.code y_X_tellAxioms prog_1_method_22_code 3 none ∈ TsG := List.mem_of_getElem? (i := 136) rfl
theorem ts_87 : Cond.methodLink "ClassifySort" 91 y_X_tellAxioms ∈ TsG := List.mem_of_getElem? (i := 137) rfl
theorem ts_88 : Cond.instanceMethod y_X_tellAxioms ∈ TsG := List.mem_of_getElem? (i := 138) rfl
theorem ts_89 : Cond.selects "ClassifySort" y_X_tellAxioms y_X_tellAxioms ∈ TsG := List.mem_of_getElem? (i := 139) rfl
theorem ts_90 : Cond.code y_XA_isThere prog_2_method_3_code 2 (some .boolean) ∈ TsG := List.mem_of_getElem? (i := 140) rfl
theorem ts_91 : Cond.methodLink "ClassifySort" 94 y_XA_isThere ∈ TsG := List.mem_of_getElem? (i := 141) rfl
theorem ts_92 : Cond.instanceMethod y_XA_isThere ∈ TsG := List.mem_of_getElem? (i := 142) rfl
theorem ts_93 : Cond.selects "ClassifySort$Axioms" y_XA_isThere y_XA_isThere ∈ TsG := List.mem_of_getElem? (i := 143) rfl
theorem ts_94 : Cond.methodLink "ClassifySort$Knowledge" 43 y_JI_bitCount ∈ TsG := List.mem_of_getElem? (i := 144) rfl
theorem ts_95 : Cond.code y_XK_knownPairs prog_3_method_16_code 4 (some .int) ∈ TsG := List.mem_of_getElem? (i := 145) rfl
theorem ts_96 : Cond.methodLink "ClassifySort" 97 y_XK_knownPairs ∈ TsG := List.mem_of_getElem? (i := 146) rfl
theorem ts_97 : Cond.instanceMethod y_XK_knownPairs ∈ TsG := List.mem_of_getElem? (i := 147) rfl
theorem ts_98 : Cond.selects "ClassifySort$Knowledge" y_XK_knownPairs y_XK_knownPairs ∈ TsG := List.mem_of_getElem? (i := 148) rfl
theorem ts_99 : Cond.methodLink "ClassifySort$Axioms" 33 y_XA_isThere ∈ TsG := List.mem_of_getElem? (i := 149) rfl
theorem ts_100 : Cond.code y_XA_drop prog_2_method_8_code 2 none ∈ TsG := List.mem_of_getElem? (i := 150) rfl
theorem ts_101 : Cond.methodLink "ClassifySort" 100 y_XA_drop ∈ TsG := List.mem_of_getElem? (i := 151) rfl
theorem ts_102 : Cond.instanceMethod y_XA_drop ∈ TsG := List.mem_of_getElem? (i := 152) rfl
theorem ts_103 : Cond.selects "ClassifySort$Axioms" y_XA_drop y_XA_drop ∈ TsG := List.mem_of_getElem? (i := 153) rfl
theorem ts_104 : Cond.code y_XK_forgetYes prog_3_method_14_code 3 none ∈ TsG := List.mem_of_getElem? (i := 154) rfl
theorem ts_105 : Cond.methodLink "ClassifySort" 103 y_XK_forgetYes ∈ TsG := List.mem_of_getElem? (i := 155) rfl
theorem ts_106 : Cond.instanceMethod y_XK_forgetYes ∈ TsG := List.mem_of_getElem? (i := 156) rfl
theorem ts_107 : Cond.selects "ClassifySort$Knowledge" y_XK_forgetYes y_XK_forgetYes ∈ TsG := List.mem_of_getElem? (i := 157) rfl
theorem ts_108 : Cond.code y_XK_openPairs prog_3_method_17_code 4 (some .int) ∈ TsG := List.mem_of_getElem? (i := 158) rfl
theorem ts_109 : Cond.methodLink "ClassifySort" 106 y_XK_openPairs ∈ TsG := List.mem_of_getElem? (i := 159) rfl
theorem ts_110 : Cond.instanceMethod y_XK_openPairs ∈ TsG := List.mem_of_getElem? (i := 160) rfl
theorem ts_111 : Cond.selects "ClassifySort$Knowledge" y_XK_openPairs y_XK_openPairs ∈ TsG := List.mem_of_getElem? (i := 161) rfl
theorem ts_112 : Cond.fieldLink "ClassifySort" 21 "ClassifySort" "reasoner" "LClassifySort$Reasoner;" ∈ TsG := List.mem_of_getElem? (i := 162) rfl
theorem ts_113 : Cond.methodLink "ClassifySort$Reasoner" 29 Lib.Math.min.name ∈ TsG := List.mem_of_getElem? (i := 163) rfl
theorem ts_114 : Cond.static Lib.Math.min.name ∈ TsG := List.mem_of_getElem? (i := 164) rfl
theorem ts_115 : Cond.initialized "java/lang/Math" ∈ TsG := List.mem_of_getElem? (i := 165) rfl
theorem ts_116 : Cond.code Lib.Math.min.name Lib.Math.min.code 2 (some .int) ∈ TsG := List.mem_of_getElem? (i := 166) rfl
theorem ts_117 : Cond.methodLink "ClassifySort$Reasoner" 35 Lib.Math.max.name ∈ TsG := List.mem_of_getElem? (i := 167) rfl
theorem ts_118 : Cond.static Lib.Math.max.name ∈ TsG := List.mem_of_getElem? (i := 168) rfl
theorem ts_119 : Cond.code Lib.Math.max.name Lib.Math.max.code 2 (some .int) ∈ TsG := List.mem_of_getElem? (i := 169) rfl
theorem ts_120 : Cond.fieldLink "ClassifySort$Reasoner" 15 "ClassifySort$Reasoner" "limit" "I" ∈ TsG := List.mem_of_getElem? (i := 170) rfl
theorem ts_121 : Cond.code y_XR_fillUp prog_5_method_2_code 2 none ∈ TsG := List.mem_of_getElem? (i := 171) rfl
theorem ts_122 : Cond.initialized "ClassifySort$Reasoner" ∈ TsG := List.mem_of_getElem? (i := 172) rfl
theorem ts_123 : Cond.methodLink "ClassifySort" 109 y_XR_fillUp ∈ TsG := List.mem_of_getElem? (i := 173) rfl
theorem ts_124 : Cond.instanceMethod y_XR_fillUp ∈ TsG := List.mem_of_getElem? (i := 174) rfl
theorem ts_125 : Cond.selects "ClassifySort$Reasoner" y_XR_fillUp y_XR_fillUp ∈ TsG := List.mem_of_getElem? (i := 175) rfl
theorem ts_126 : Cond.code y_XK_forgetOpen prog_3_method_15_code 2 none ∈ TsG := List.mem_of_getElem? (i := 176) rfl
theorem ts_127 : Cond.methodLink "ClassifySort" 112 y_XK_forgetOpen ∈ TsG := List.mem_of_getElem? (i := 177) rfl
theorem ts_128 : Cond.instanceMethod y_XK_forgetOpen ∈ TsG := List.mem_of_getElem? (i := 178) rfl
theorem ts_129 : Cond.selects "ClassifySort$Knowledge" y_XK_forgetOpen y_XK_forgetOpen ∈ TsG := List.mem_of_getElem? (i := 179) rfl
theorem ts_130 : Cond.code y_XK_of prog_3_method_3_code 3 (some .int) ∈ TsG := List.mem_of_getElem? (i := 180) rfl
theorem ts_131 : Cond.methodLink "ClassifySort" 115 y_XK_of ∈ TsG := List.mem_of_getElem? (i := 181) rfl
theorem ts_132 : Cond.instanceMethod y_XK_of ∈ TsG := List.mem_of_getElem? (i := 182) rfl
theorem ts_133 : Cond.selects "ClassifySort$Knowledge" y_XK_of y_XK_of ∈ TsG := List.mem_of_getElem? (i := 183) rfl
theorem ts_134 : Cond.fieldLink "ClassifySort$Reasoner" 22 "ClassifySort$Reasoner" "facts" "I" ∈ TsG := List.mem_of_getElem? (i := 184) rfl
theorem ts_135 : Cond.fieldLink "ClassifySort$Reasoner" 19 "ClassifySort$Reasoner" "steps" "I" ∈ TsG := List.mem_of_getElem? (i := 185) rfl
theorem ts_136 : Cond.fieldLink "ClassifySort$Reasoner" 25 "ClassifySort$Reasoner" "axioms" "LClassifySort$Axioms;" ∈ TsG := List.mem_of_getElem? (i := 186) rfl
theorem ts_137 : Cond.code y_XA_firstThatFires prog_2_method_9_code 4 (some .int) ∈ TsG := List.mem_of_getElem? (i := 187) rfl
theorem ts_138 : Cond.methodLink "ClassifySort$Reasoner" 42 y_XA_firstThatFires ∈ TsG := List.mem_of_getElem? (i := 188) rfl
theorem ts_139 : Cond.instanceMethod y_XA_firstThatFires ∈ TsG := List.mem_of_getElem? (i := 189) rfl
theorem ts_140 : Cond.selects "ClassifySort$Axioms" y_XA_firstThatFires y_XA_firstThatFires ∈ TsG := List.mem_of_getElem? (i := 190) rfl
theorem ts_141 : Cond.fieldLink "ClassifySort$Reasoner" 9 "ClassifySort$Reasoner" "fired" "[I" ∈ TsG := List.mem_of_getElem? (i := 191) rfl
theorem ts_142 : Cond.methodLink "ClassifySort$Reasoner" 47 y_XA_rightOf ∈ TsG := List.mem_of_getElem? (i := 192) rfl
theorem ts_143 : Cond.code y_XR_decide prog_5_method_5_code 6 (some .int) ∈ TsG := List.mem_of_getElem? (i := 193) rfl
theorem ts_144 : Cond.methodLink "ClassifySort" 118 y_XR_decide ∈ TsG := List.mem_of_getElem? (i := 194) rfl
theorem ts_145 : Cond.instanceMethod y_XR_decide ∈ TsG := List.mem_of_getElem? (i := 195) rfl
theorem ts_146 : Cond.selects "ClassifySort$Reasoner" y_XR_decide y_XR_decide ∈ TsG := List.mem_of_getElem? (i := 196) rfl
theorem ts_147 : Cond.fieldLink "ClassifySort" 37 "ClassifySort" "order" "LClassifySort$Order;" ∈ TsG := List.mem_of_getElem? (i := 197) rfl
theorem ts_148 : Cond.fieldLink "ClassifySort$Order" 9 "ClassifySort$Order" "placed" "I" ∈ TsG := List.mem_of_getElem? (i := 198) rfl
theorem ts_149 : Cond.fieldLink "ClassifySort$Order" 15 "ClassifySort$Order" "empties" "I" ∈ TsG := List.mem_of_getElem? (i := 199) rfl
theorem ts_150 : Cond.fieldLink "ClassifySort$Order" 18 "ClassifySort$Order" "asked" "I" ∈ TsG := List.mem_of_getElem? (i := 200) rfl
theorem ts_151 : Cond.fieldLink "ClassifySort$Order" 21 "ClassifySort$Order" "knowledge" "LClassifySort$Knowledge;" ∈ TsG := List.mem_of_getElem? (i := 201) rfl
theorem ts_152 : Cond.methodLink "ClassifySort$Order" 48 y_XK_of ∈ TsG := List.mem_of_getElem? (i := 202) rfl
theorem ts_153 : Cond.fieldLink "ClassifySort$Order" 25 "ClassifySort$Order" "reasoner" "LClassifySort$Reasoner;" ∈ TsG := List.mem_of_getElem? (i := 203) rfl
theorem ts_154 : Cond.methodLink "ClassifySort$Order" 53 y_XR_decide ∈ TsG := List.mem_of_getElem? (i := 204) rfl
theorem ts_155 : Cond.code y_XK_learn prog_3_method_10_code 4 none ∈ TsG := List.mem_of_getElem? (i := 205) rfl
theorem ts_156 : Cond.methodLink "ClassifySort$Order" 58 y_XK_learn ∈ TsG := List.mem_of_getElem? (i := 206) rfl
theorem ts_157 : Cond.instanceMethod y_XK_learn ∈ TsG := List.mem_of_getElem? (i := 207) rfl
theorem ts_158 : Cond.selects "ClassifySort$Knowledge" y_XK_learn y_XK_learn ∈ TsG := List.mem_of_getElem? (i := 208) rfl
theorem ts_159 : Cond.code y_XO_answer prog_4_method_6_code 3 (some .int) ∈ TsG := List.mem_of_getElem? (i := 209) rfl
theorem ts_160 : Cond.initialized "ClassifySort$Order" ∈ TsG := List.mem_of_getElem? (i := 210) rfl
theorem ts_161 : Cond.methodLink "ClassifySort$Order" 33 y_XO_answer ∈ TsG := List.mem_of_getElem? (i := 211) rfl
theorem ts_162 : Cond.instanceMethod y_XO_answer ∈ TsG := List.mem_of_getElem? (i := 212) rfl
theorem ts_163 : Cond.selects "ClassifySort$Order" y_XO_answer y_XO_answer ∈ TsG := List.mem_of_getElem? (i := 213) rfl
theorem ts_164 : Cond.code y_XK_allAbove prog_3_method_4_code 2 (some .int) ∈ TsG := List.mem_of_getElem? (i := 214) rfl
theorem ts_165 : Cond.methodLink "ClassifySort$Order" 68 y_XK_allAbove ∈ TsG := List.mem_of_getElem? (i := 215) rfl
theorem ts_166 : Cond.instanceMethod y_XK_allAbove ∈ TsG := List.mem_of_getElem? (i := 216) rfl
theorem ts_167 : Cond.selects "ClassifySort$Knowledge" y_XK_allAbove y_XK_allAbove ∈ TsG := List.mem_of_getElem? (i := 217) rfl
theorem ts_168 : Cond.code y_XK_strictlyAbove prog_3_method_6_code 2 (some .int) ∈ TsG := List.mem_of_getElem? (i := 218) rfl
theorem ts_169 : Cond.methodLink "ClassifySort$Order" 71 y_XK_strictlyAbove ∈ TsG := List.mem_of_getElem? (i := 219) rfl
theorem ts_170 : Cond.instanceMethod y_XK_strictlyAbove ∈ TsG := List.mem_of_getElem? (i := 220) rfl
theorem ts_171 : Cond.selects "ClassifySort$Knowledge" y_XK_strictlyAbove y_XK_strictlyAbove ∈ TsG := List.mem_of_getElem? (i := 221) rfl
theorem ts_172 : Cond.code y_XO_nextDown prog_4_method_9_code 5 (some .int) ∈ TsG := List.mem_of_getElem? (i := 222) rfl
theorem ts_173 : Cond.methodLink "ClassifySort$Order" 62 y_XO_nextDown ∈ TsG := List.mem_of_getElem? (i := 223) rfl
theorem ts_174 : Cond.instanceMethod y_XO_nextDown ∈ TsG := List.mem_of_getElem? (i := 224) rfl
theorem ts_175 : Cond.selects "ClassifySort$Order" y_XO_nextDown y_XO_nextDown ∈ TsG := List.mem_of_getElem? (i := 225) rfl
theorem ts_176 : Cond.code y_XO_searchDown prog_4_method_7_code 5 none ∈ TsG := List.mem_of_getElem? (i := 226) rfl
theorem ts_177 : Cond.methodLink "ClassifySort$Order" 41 y_XO_searchDown ∈ TsG := List.mem_of_getElem? (i := 227) rfl
theorem ts_178 : Cond.instanceMethod y_XO_searchDown ∈ TsG := List.mem_of_getElem? (i := 228) rfl
theorem ts_179 : Cond.selects "ClassifySort$Order" y_XO_searchDown y_XO_searchDown ∈ TsG := List.mem_of_getElem? (i := 229) rfl
theorem ts_180 : Cond.code y_XK_allBelow prog_3_method_5_code 2 (some .int) ∈ TsG := List.mem_of_getElem? (i := 230) rfl
theorem ts_181 : Cond.methodLink "ClassifySort$Order" 74 y_XK_allBelow ∈ TsG := List.mem_of_getElem? (i := 231) rfl
theorem ts_182 : Cond.instanceMethod y_XK_allBelow ∈ TsG := List.mem_of_getElem? (i := 232) rfl
theorem ts_183 : Cond.selects "ClassifySort$Knowledge" y_XK_allBelow y_XK_allBelow ∈ TsG := List.mem_of_getElem? (i := 233) rfl
theorem ts_184 : Cond.code y_XK_strictlyBelow prog_3_method_7_code 2 (some .int) ∈ TsG := List.mem_of_getElem? (i := 234) rfl
theorem ts_185 : Cond.methodLink "ClassifySort$Order" 77 y_XK_strictlyBelow ∈ TsG := List.mem_of_getElem? (i := 235) rfl
theorem ts_186 : Cond.instanceMethod y_XK_strictlyBelow ∈ TsG := List.mem_of_getElem? (i := 236) rfl
theorem ts_187 : Cond.selects "ClassifySort$Knowledge" y_XK_strictlyBelow y_XK_strictlyBelow ∈ TsG := List.mem_of_getElem? (i := 237) rfl
theorem ts_188 : Cond.code y_XO_nextUp prog_4_method_10_code 6 (some .int) ∈ TsG := List.mem_of_getElem? (i := 238) rfl
theorem ts_189 : Cond.methodLink "ClassifySort$Order" 65 y_XO_nextUp ∈ TsG := List.mem_of_getElem? (i := 239) rfl
theorem ts_190 : Cond.instanceMethod y_XO_nextUp ∈ TsG := List.mem_of_getElem? (i := 240) rfl
theorem ts_191 : Cond.selects "ClassifySort$Order" y_XO_nextUp y_XO_nextUp ∈ TsG := List.mem_of_getElem? (i := 241) rfl
theorem ts_192 : Cond.code y_XO_searchUp prog_4_method_8_code 5 none ∈ TsG := List.mem_of_getElem? (i := 242) rfl
theorem ts_193 : Cond.methodLink "ClassifySort$Order" 45 y_XO_searchUp ∈ TsG := List.mem_of_getElem? (i := 243) rfl
theorem ts_194 : Cond.instanceMethod y_XO_searchUp ∈ TsG := List.mem_of_getElem? (i := 244) rfl
theorem ts_195 : Cond.selects "ClassifySort$Order" y_XO_searchUp y_XO_searchUp ∈ TsG := List.mem_of_getElem? (i := 245) rfl
theorem ts_196 : Cond.code y_XO_sort prog_4_method_5_code 3 (some .int) ∈ TsG := List.mem_of_getElem? (i := 246) rfl
theorem ts_197 : Cond.methodLink "ClassifySort" 121 y_XO_sort ∈ TsG := List.mem_of_getElem? (i := 247) rfl
theorem ts_198 : Cond.instanceMethod y_XO_sort ∈ TsG := List.mem_of_getElem? (i := 248) rfl
theorem ts_199 : Cond.selects "ClassifySort$Order" y_XO_sort y_XO_sort ∈ TsG := List.mem_of_getElem? (i := 249) rfl
theorem ts_200 : Cond.fieldLink "ClassifySort" 52 "ClassifySort" "questions" "I" ∈ TsG := List.mem_of_getElem? (i := 250) rfl
theorem ts_201 : Cond.code y_XO_isEmptyClass prog_4_method_4_code 2 (some .boolean) ∈ TsG := List.mem_of_getElem? (i := 251) rfl
theorem ts_202 : Cond.methodLink "ClassifySort" 124 y_XO_isEmptyClass ∈ TsG := List.mem_of_getElem? (i := 252) rfl
theorem ts_203 : Cond.instanceMethod y_XO_isEmptyClass ∈ TsG := List.mem_of_getElem? (i := 253) rfl
theorem ts_204 : Cond.selects "ClassifySort$Order" y_XO_isEmptyClass y_XO_isEmptyClass ∈ TsG := List.mem_of_getElem? (i := 254) rfl
theorem ts_205 : Cond.code y_XK_sameAs prog_3_method_8_code 2 (some .int) ∈ TsG := List.mem_of_getElem? (i := 255) rfl
theorem ts_206 : Cond.methodLink "ClassifySort$Order" 86 y_XK_sameAs ∈ TsG := List.mem_of_getElem? (i := 256) rfl
theorem ts_207 : Cond.instanceMethod y_XK_sameAs ∈ TsG := List.mem_of_getElem? (i := 257) rfl
theorem ts_208 : Cond.selects "ClassifySort$Knowledge" y_XK_sameAs y_XK_sameAs ∈ TsG := List.mem_of_getElem? (i := 258) rfl
theorem ts_209 : Cond.code y_XO_firstOfSame prog_4_method_15_code 4 (some .int) ∈ TsG := List.mem_of_getElem? (i := 259) rfl
theorem ts_210 : Cond.methodLink "ClassifySort" 134 y_XO_firstOfSame ∈ TsG := List.mem_of_getElem? (i := 260) rfl
theorem ts_211 : Cond.instanceMethod y_XO_firstOfSame ∈ TsG := List.mem_of_getElem? (i := 261) rfl
theorem ts_212 : Cond.selects "ClassifySort$Order" y_XO_firstOfSame y_XO_firstOfSame ∈ TsG := List.mem_of_getElem? (i := 262) rfl
theorem ts_213 : Cond.methodLink "ClassifySort" 160 y_X_has ∈ TsG := List.mem_of_getElem? (i := 263) rfl
theorem ts_214 : Cond.code y_X_pick prog_1_method_26_code 4 (some .int) ∈ TsG := List.mem_of_getElem? (i := 264) rfl
theorem ts_215 : Cond.methodLink "ClassifySort" 137 y_X_pick ∈ TsG := List.mem_of_getElem? (i := 265) rfl
theorem ts_216 : Cond.static y_X_pick ∈ TsG := List.mem_of_getElem? (i := 266) rfl
theorem ts_217 : Cond.code y_XO_directlyAbove prog_4_method_11_code 5 (some .int) ∈ TsG := List.mem_of_getElem? (i := 267) rfl
theorem ts_218 : Cond.methodLink "ClassifySort" 131 y_XO_directlyAbove ∈ TsG := List.mem_of_getElem? (i := 268) rfl
theorem ts_219 : Cond.instanceMethod y_XO_directlyAbove ∈ TsG := List.mem_of_getElem? (i := 269) rfl
theorem ts_220 : Cond.selects "ClassifySort$Order" y_XO_directlyAbove y_XO_directlyAbove ∈ TsG := List.mem_of_getElem? (i := 270) rfl
theorem ts_221 : Cond.code y_XO_directlyBelow prog_4_method_12_code 5 (some .int) ∈ TsG := List.mem_of_getElem? (i := 271) rfl
theorem ts_222 : Cond.methodLink "ClassifySort$Order" 83 y_XO_directlyBelow ∈ TsG := List.mem_of_getElem? (i := 272) rfl
theorem ts_223 : Cond.instanceMethod y_XO_directlyBelow ∈ TsG := List.mem_of_getElem? (i := 273) rfl
theorem ts_224 : Cond.selects "ClassifySort$Order" y_XO_directlyBelow y_XO_directlyBelow ∈ TsG := List.mem_of_getElem? (i := 274) rfl
theorem ts_225 : Cond.code y_XO_lowestAmong prog_4_method_14_code 4 (some .int) ∈ TsG := List.mem_of_getElem? (i := 275) rfl
theorem ts_226 : Cond.methodLink "ClassifySort$Order" 80 y_XO_lowestAmong ∈ TsG := List.mem_of_getElem? (i := 276) rfl
theorem ts_227 : Cond.instanceMethod y_XO_lowestAmong ∈ TsG := List.mem_of_getElem? (i := 277) rfl
theorem ts_228 : Cond.selects "ClassifySort$Order" y_XO_lowestAmong y_XO_lowestAmong ∈ TsG := List.mem_of_getElem? (i := 278) rfl
theorem ts_229 : Cond.code y_XO_lowest prog_4_method_13_code 1 (some .int) ∈ TsG := List.mem_of_getElem? (i := 279) rfl
theorem ts_230 : Cond.methodLink "ClassifySort" 127 y_XO_lowest ∈ TsG := List.mem_of_getElem? (i := 280) rfl
theorem ts_231 : Cond.instanceMethod y_XO_lowest ∈ TsG := List.mem_of_getElem? (i := 281) rfl
theorem ts_232 : Cond.selects "ClassifySort$Order" y_XO_lowest y_XO_lowest ∈ TsG := List.mem_of_getElem? (i := 282) rfl
theorem ts_233 : Cond.methodLink "ClassifySort" 140 y_XO_directlyBelow ∈ TsG := List.mem_of_getElem? (i := 283) rfl
theorem ts_234 : Cond.methodLink "ClassifySort" 143 y_XK_sameAs ∈ TsG := List.mem_of_getElem? (i := 284) rfl
theorem ts_235 : Cond.code y_XO_emptyClasses prog_4_method_3_code 1 (some .int) ∈ TsG := List.mem_of_getElem? (i := 285) rfl
theorem ts_236 : Cond.methodLink "ClassifySort" 146 y_XO_emptyClasses ∈ TsG := List.mem_of_getElem? (i := 286) rfl
theorem ts_237 : Cond.instanceMethod y_XO_emptyClasses ∈ TsG := List.mem_of_getElem? (i := 287) rfl
theorem ts_238 : Cond.selects "ClassifySort$Order" y_XO_emptyClasses y_XO_emptyClasses ∈ TsG := List.mem_of_getElem? (i := 288) rfl
theorem ts_239 : Cond.code y_XK_openOf prog_3_method_9_code 2 (some .int) ∈ TsG := List.mem_of_getElem? (i := 289) rfl
theorem ts_240 : Cond.methodLink "ClassifySort" 149 y_XK_openOf ∈ TsG := List.mem_of_getElem? (i := 290) rfl
theorem ts_241 : Cond.instanceMethod y_XK_openOf ∈ TsG := List.mem_of_getElem? (i := 291) rfl
theorem ts_242 : Cond.selects "ClassifySort$Knowledge" y_XK_openOf y_XK_openOf ∈ TsG := List.mem_of_getElem? (i := 292) rfl
theorem ts_243 : Cond.code y_X_isThing prog_1_method_20_code 2 (some .boolean) ∈ TsG := List.mem_of_getElem? (i := 293) rfl
theorem ts_244 : Cond.methodLink "ClassifySort" 157 y_X_isThing ∈ TsG := List.mem_of_getElem? (i := 294) rfl
theorem ts_245 : Cond.instanceMethod y_X_isThing ∈ TsG := List.mem_of_getElem? (i := 295) rfl
theorem ts_246 : Cond.selects "ClassifySort" y_X_isThing y_X_isThing ∈ TsG := List.mem_of_getElem? (i := 296) rfl
theorem ts_247 : Cond.fieldLink "ClassifySort" 41 "ClassifySort" "toldClasses" "[I" ∈ TsG := List.mem_of_getElem? (i := 297) rfl
theorem ts_248 : Cond.code y_XR_facts prog_5_method_3_code 1 (some .int) ∈ TsG := List.mem_of_getElem? (i := 298) rfl
theorem ts_249 : Cond.methodLink "ClassifySort" 164 y_XR_facts ∈ TsG := List.mem_of_getElem? (i := 299) rfl
theorem ts_250 : Cond.instanceMethod y_XR_facts ∈ TsG := List.mem_of_getElem? (i := 300) rfl
theorem ts_251 : Cond.selects "ClassifySort$Reasoner" y_XR_facts y_XR_facts ∈ TsG := List.mem_of_getElem? (i := 301) rfl
theorem ts_252 : Cond.methodLink "ClassifySort" 167 y_XO_lowestAmong ∈ TsG := List.mem_of_getElem? (i := 302) rfl
theorem ts_253 : Cond.methodLink "ClassifySort$Reasoner" 54 y_XA_leftOf ∈ TsG := List.mem_of_getElem? (i := 303) rfl
theorem ts_254 : Cond.code y_XR_neededSteps prog_5_method_6_code 4 (some .int) ∈ TsG := List.mem_of_getElem? (i := 304) rfl
theorem ts_255 : Cond.methodLink "ClassifySort" 170 y_XR_neededSteps ∈ TsG := List.mem_of_getElem? (i := 305) rfl
theorem ts_256 : Cond.instanceMethod y_XR_neededSteps ∈ TsG := List.mem_of_getElem? (i := 306) rfl
theorem ts_257 : Cond.selects "ClassifySort$Reasoner" y_XR_neededSteps y_XR_neededSteps ∈ TsG := List.mem_of_getElem? (i := 307) rfl
theorem ts_258 : Cond.code y_XR_firedAt prog_5_method_4_code 2 (some .int) ∈ TsG := List.mem_of_getElem? (i := 308) rfl
theorem ts_259 : Cond.methodLink "ClassifySort" 173 y_XR_firedAt ∈ TsG := List.mem_of_getElem? (i := 309) rfl
theorem ts_260 : Cond.instanceMethod y_XR_firedAt ∈ TsG := List.mem_of_getElem? (i := 310) rfl
theorem ts_261 : Cond.selects "ClassifySort$Reasoner" y_XR_firedAt y_XR_firedAt ∈ TsG := List.mem_of_getElem? (i := 311) rfl
theorem ts_262 : Cond.code y_XA_thereNow prog_2_method_4_code 1 (some .int) ∈ TsG := List.mem_of_getElem? (i := 312) rfl
theorem ts_263 : Cond.methodLink "ClassifySort" 176 y_XA_thereNow ∈ TsG := List.mem_of_getElem? (i := 313) rfl
theorem ts_264 : Cond.instanceMethod y_XA_thereNow ∈ TsG := List.mem_of_getElem? (i := 314) rfl
theorem ts_265 : Cond.selects "ClassifySort$Axioms" y_XA_thereNow y_XA_thereNow ∈ TsG := List.mem_of_getElem? (i := 315) rfl
theorem ts_266 : Cond.code y_XO_placedClasses prog_4_method_2_code 1 (some .int) ∈ TsG := List.mem_of_getElem? (i := 316) rfl
theorem ts_267 : Cond.methodLink "ClassifySort" 179 y_XO_placedClasses ∈ TsG := List.mem_of_getElem? (i := 317) rfl
theorem ts_268 : Cond.instanceMethod y_XO_placedClasses ∈ TsG := List.mem_of_getElem? (i := 318) rfl
theorem ts_269 : Cond.selects "ClassifySort$Order" y_XO_placedClasses y_XO_placedClasses ∈ TsG := List.mem_of_getElem? (i := 319) rfl
theorem ts_270 : Cond.fieldLink "ClassifySortModel" 60 "ClassifySortModel" "classes" "I" ∈ TsG := List.mem_of_getElem? (i := 320) rfl
theorem ts_271 : Cond.fieldLink "ClassifySortModel" 97 "ClassifySortModel" "sorted" "Z" ∈ TsG := List.mem_of_getElem? (i := 321) rfl
theorem ts_272 : Cond.fieldLink "ClassifySortModel" 67 "ClassifySortModel" "axioms" "I" ∈ TsG := List.mem_of_getElem? (i := 322) rfl
theorem ts_273 : Cond.fieldLink "ClassifySortModel" 23 "ClassifySortModel" "there" "[Z" ∈ TsG := List.mem_of_getElem? (i := 323) rfl
theorem ts_274 : Cond.fieldLink "ClassifySortModel" 13 "ClassifySortModel" "left" "[I" ∈ TsG := List.mem_of_getElem? (i := 324) rfl
theorem ts_275 : Cond.fieldLink "ClassifySortModel" 17 "ClassifySortModel" "other" "[I" ∈ TsG := List.mem_of_getElem? (i := 325) rfl
theorem ts_276 : Cond.fieldLink "ClassifySortModel" 20 "ClassifySortModel" "right" "[I" ∈ TsG := List.mem_of_getElem? (i := 326) rfl
theorem ts_277 : Cond.code y_M_isItself prog_7_method_6_code 5 (some .boolean) ∈ TsG := List.mem_of_getElem? (i := 327) rfl
theorem ts_278 : Cond.initialized "ClassifySortModel" ∈ TsG := List.mem_of_getElem? (i := 328) rfl
theorem ts_279 : Cond.methodLink "ClassifySortModel" 70 y_M_isItself ∈ TsG := List.mem_of_getElem? (i := 329) rfl
theorem ts_280 : Cond.instanceMethod y_M_isItself ∈ TsG := List.mem_of_getElem? (i := 330) rfl
theorem ts_281 : Cond.selects "ClassifySortModel" y_M_isItself y_M_isItself ∈ TsG := List.mem_of_getElem? (i := 331) rfl
theorem ts_282 : Cond.fieldLink "ClassifySortModel" 30 "ClassifySortModel" "state" "[I" ∈ TsG := List.mem_of_getElem? (i := 332) rfl
theorem ts_283 : Cond.code y_M_tellItself prog_7_method_7_code 3 none ∈ TsG := List.mem_of_getElem? (i := 333) rfl
theorem ts_284 : Cond.methodLink "ClassifySortModel" 83 y_M_tellItself ∈ TsG := List.mem_of_getElem? (i := 334) rfl
theorem ts_285 : Cond.instanceMethod y_M_tellItself ∈ TsG := List.mem_of_getElem? (i := 335) rfl
theorem ts_286 : Cond.selects "ClassifySortModel" y_M_tellItself y_M_tellItself ∈ TsG := List.mem_of_getElem? (i := 336) rfl
theorem ts_287 : Cond.code y_M_isHere prog_7_method_8_code 2 (some .boolean) ∈ TsG := List.mem_of_getElem? (i := 337) rfl
theorem ts_288 : Cond.methodLink "ClassifySortModel" 74 y_M_isHere ∈ TsG := List.mem_of_getElem? (i := 338) rfl
theorem ts_289 : Cond.instanceMethod y_M_isHere ∈ TsG := List.mem_of_getElem? (i := 339) rfl
theorem ts_290 : Cond.selects "ClassifySortModel" y_M_isHere y_M_isHere ∈ TsG := List.mem_of_getElem? (i := 340) rfl
theorem ts_291 : Cond.code y_M_below prog_7_method_5_code 3 (some .boolean) ∈ TsG := List.mem_of_getElem? (i := 341) rfl
theorem ts_292 : Cond.methodLink "ClassifySortModel" 77 y_M_below ∈ TsG := List.mem_of_getElem? (i := 342) rfl
theorem ts_293 : Cond.instanceMethod y_M_below ∈ TsG := List.mem_of_getElem? (i := 343) rfl
theorem ts_294 : Cond.selects "ClassifySortModel" y_M_below y_M_below ∈ TsG := List.mem_of_getElem? (i := 344) rfl
theorem ts_295 : Cond.code y_M_spreadNo prog_7_method_10_code 7 (some .boolean) ∈ TsG := List.mem_of_getElem? (i := 345) rfl
theorem ts_296 : Cond.methodLink "ClassifySortModel" 80 y_M_spreadNo ∈ TsG := List.mem_of_getElem? (i := 346) rfl
theorem ts_297 : Cond.instanceMethod y_M_spreadNo ∈ TsG := List.mem_of_getElem? (i := 347) rfl
theorem ts_298 : Cond.selects "ClassifySortModel" y_M_spreadNo y_M_spreadNo ∈ TsG := List.mem_of_getElem? (i := 348) rfl
theorem ts_299 : Cond.code y_M_closeOnce prog_7_method_9_code 5 (some .boolean) ∈ TsG := List.mem_of_getElem? (i := 349) rfl
theorem ts_300 : Cond.methodLink "ClassifySortModel" 86 y_M_closeOnce ∈ TsG := List.mem_of_getElem? (i := 350) rfl
theorem ts_301 : Cond.instanceMethod y_M_closeOnce ∈ TsG := List.mem_of_getElem? (i := 351) rfl
theorem ts_302 : Cond.selects "ClassifySortModel" y_M_closeOnce y_M_closeOnce ∈ TsG := List.mem_of_getElem? (i := 352) rfl
theorem ts_303 : Cond.code y_M_close prog_7_method_11_code 2 none ∈ TsG := List.mem_of_getElem? (i := 353) rfl
theorem ts_304 : Cond.methodLink "ClassifySortModel" 101 y_M_close ∈ TsG := List.mem_of_getElem? (i := 354) rfl
theorem ts_305 : Cond.instanceMethod y_M_close ∈ TsG := List.mem_of_getElem? (i := 355) rfl
theorem ts_306 : Cond.selects "ClassifySortModel" y_M_close y_M_close ∈ TsG := List.mem_of_getElem? (i := 356) rfl
theorem ts_307 : Cond.fieldLink "ClassifySortModel" 104 "ClassifySortModel" "things" "I" ∈ TsG := List.mem_of_getElem? (i := 357) rfl
theorem ts_308 : Cond.code y_M_isClass prog_7_method_3_code 2 (some .boolean) ∈ TsG := List.mem_of_getElem? (i := 358) rfl
theorem ts_309 : Cond.methodLink "ClassifySortModel" 63 y_M_isClass ∈ TsG := List.mem_of_getElem? (i := 359) rfl
theorem ts_310 : Cond.instanceMethod y_M_isClass ∈ TsG := List.mem_of_getElem? (i := 360) rfl
theorem ts_311 : Cond.selects "ClassifySortModel" y_M_isClass y_M_isClass ∈ TsG := List.mem_of_getElem? (i := 361) rfl
theorem ts_312 : Cond.fieldLink "ClassifySortModel" 54 "ClassifySortModel" "module" "[Z" ∈ TsG := List.mem_of_getElem? (i := 362) rfl
theorem ts_313 : Cond.code y_M_isTouched prog_7_method_17_code 7 (some .boolean) ∈ TsG := List.mem_of_getElem? (i := 363) rfl
theorem ts_314 : Cond.methodLink "ClassifySortModel" 107 y_M_isTouched ∈ TsG := List.mem_of_getElem? (i := 364) rfl
theorem ts_315 : Cond.instanceMethod y_M_isTouched ∈ TsG := List.mem_of_getElem? (i := 365) rfl
theorem ts_316 : Cond.selects "ClassifySortModel" y_M_isTouched y_M_isTouched ∈ TsG := List.mem_of_getElem? (i := 366) rfl
theorem ts_317 : Cond.code y_M_forget prog_7_method_18_code 6 none ∈ TsG := List.mem_of_getElem? (i := 367) rfl
theorem ts_318 : Cond.methodLink "ClassifySortModel" 110 y_M_forget ∈ TsG := List.mem_of_getElem? (i := 368) rfl
theorem ts_319 : Cond.instanceMethod y_M_forget ∈ TsG := List.mem_of_getElem? (i := 369) rfl
theorem ts_320 : Cond.selects "ClassifySortModel" y_M_forget y_M_forget ∈ TsG := List.mem_of_getElem? (i := 370) rfl
theorem ts_321 : Cond.fieldLink "ClassifySortModel" 33 "ClassifySortModel" "before" "[I" ∈ TsG := List.mem_of_getElem? (i := 371) rfl
theorem ts_322 : Cond.code y_M_openPairs prog_7_method_21_code 3 (some .int) ∈ TsG := List.mem_of_getElem? (i := 372) rfl
theorem ts_323 : Cond.methodLink "ClassifySortModel" 114 y_M_openPairs ∈ TsG := List.mem_of_getElem? (i := 373) rfl
theorem ts_324 : Cond.instanceMethod y_M_openPairs ∈ TsG := List.mem_of_getElem? (i := 374) rfl
theorem ts_325 : Cond.selects "ClassifySortModel" y_M_openPairs y_M_openPairs ∈ TsG := List.mem_of_getElem? (i := 375) rfl
theorem ts_326 : Cond.fieldLink "ClassifySortModel" 7 "ClassifySortModel" "fuel" "I" ∈ TsG := List.mem_of_getElem? (i := 376) rfl
theorem ts_327 : Cond.code y_M_goalOf prog_7_method_4_code 2 (some .int) ∈ TsG := List.mem_of_getElem? (i := 377) rfl
theorem ts_328 : Cond.methodLink "ClassifySortModel" 118 y_M_goalOf ∈ TsG := List.mem_of_getElem? (i := 378) rfl
theorem ts_329 : Cond.instanceMethod y_M_goalOf ∈ TsG := List.mem_of_getElem? (i := 379) rfl
theorem ts_330 : Cond.selects "ClassifySortModel" y_M_goalOf y_M_goalOf ∈ TsG := List.mem_of_getElem? (i := 380) rfl
theorem ts_331 : Cond.fieldLink "ClassifySortModel" 42 "ClassifySortModel" "fact" "[Z" ∈ TsG := List.mem_of_getElem? (i := 381) rfl
theorem ts_332 : Cond.fieldLink "ClassifySortModel" 90 "ClassifySortModel" "firedCount" "I" ∈ TsG := List.mem_of_getElem? (i := 382) rfl
theorem ts_333 : Cond.fieldLink "ClassifySortModel" 45 "ClassifySortModel" "maker" "[I" ∈ TsG := List.mem_of_getElem? (i := 383) rfl
theorem ts_334 : Cond.fieldLink "ClassifySortModel" 48 "ClassifySortModel" "fired" "[I" ∈ TsG := List.mem_of_getElem? (i := 384) rfl
theorem ts_335 : Cond.code y_M_reason prog_7_method_12_code 5 (some .int) ∈ TsG := List.mem_of_getElem? (i := 385) rfl
theorem ts_336 : Cond.methodLink "ClassifySortModel" 93 y_M_reason ∈ TsG := List.mem_of_getElem? (i := 386) rfl
theorem ts_337 : Cond.instanceMethod y_M_reason ∈ TsG := List.mem_of_getElem? (i := 387) rfl
theorem ts_338 : Cond.selects "ClassifySortModel" y_M_reason y_M_reason ∈ TsG := List.mem_of_getElem? (i := 388) rfl
theorem ts_339 : Cond.code y_M_reasonAlone prog_7_method_13_code 4 (some .int) ∈ TsG := List.mem_of_getElem? (i := 389) rfl
theorem ts_340 : Cond.methodLink "ClassifySortModel" 121 y_M_reasonAlone ∈ TsG := List.mem_of_getElem? (i := 390) rfl
theorem ts_341 : Cond.instanceMethod y_M_reasonAlone ∈ TsG := List.mem_of_getElem? (i := 391) rfl
theorem ts_342 : Cond.selects "ClassifySortModel" y_M_reasonAlone y_M_reasonAlone ∈ TsG := List.mem_of_getElem? (i := 392) rfl
theorem ts_343 : Cond.fieldLink "ClassifySortModel" 125 "ClassifySortModel" "asked" "I" ∈ TsG := List.mem_of_getElem? (i := 393) rfl
theorem ts_344 : Cond.fieldLink "ClassifySortModel" 36 "ClassifySortModel" "placed" "[Z" ∈ TsG := List.mem_of_getElem? (i := 394) rfl
theorem ts_345 : Cond.code y_M_look prog_7_method_25_code 3 (some .boolean) ∈ TsG := List.mem_of_getElem? (i := 395) rfl
theorem ts_346 : Cond.methodLink "ClassifySortModel" 138 y_M_look ∈ TsG := List.mem_of_getElem? (i := 396) rfl
theorem ts_347 : Cond.instanceMethod y_M_look ∈ TsG := List.mem_of_getElem? (i := 397) rfl
theorem ts_348 : Cond.selects "ClassifySortModel" y_M_look y_M_look ∈ TsG := List.mem_of_getElem? (i := 398) rfl
theorem ts_349 : Cond.fieldLink "ClassifySortModel" 39 "ClassifySortModel" "looked" "[Z" ∈ TsG := List.mem_of_getElem? (i := 399) rfl
theorem ts_350 : Cond.code y_M_isUnder prog_7_method_26_code 3 (some .boolean) ∈ TsG := List.mem_of_getElem? (i := 400) rfl
theorem ts_351 : Cond.methodLink "ClassifySortModel" 128 y_M_isUnder ∈ TsG := List.mem_of_getElem? (i := 401) rfl
theorem ts_352 : Cond.instanceMethod y_M_isUnder ∈ TsG := List.mem_of_getElem? (i := 402) rfl
theorem ts_353 : Cond.selects "ClassifySortModel" y_M_isUnder y_M_isUnder ∈ TsG := List.mem_of_getElem? (i := 403) rfl
theorem ts_354 : Cond.code y_M_isDirect prog_7_method_27_code 5 (some .boolean) ∈ TsG := List.mem_of_getElem? (i := 404) rfl
theorem ts_355 : Cond.methodLink "ClassifySortModel" 131 y_M_isDirect ∈ TsG := List.mem_of_getElem? (i := 405) rfl
theorem ts_356 : Cond.instanceMethod y_M_isDirect ∈ TsG := List.mem_of_getElem? (i := 406) rfl
theorem ts_357 : Cond.selects "ClassifySortModel" y_M_isDirect y_M_isDirect ∈ TsG := List.mem_of_getElem? (i := 407) rfl
theorem ts_358 : Cond.code y_M_nextFor prog_7_method_28_code 7 (some .int) ∈ TsG := List.mem_of_getElem? (i := 408) rfl
theorem ts_359 : Cond.methodLink "ClassifySortModel" 134 y_M_nextFor ∈ TsG := List.mem_of_getElem? (i := 409) rfl
theorem ts_360 : Cond.instanceMethod y_M_nextFor ∈ TsG := List.mem_of_getElem? (i := 410) rfl
theorem ts_361 : Cond.selects "ClassifySortModel" y_M_nextFor y_M_nextFor ∈ TsG := List.mem_of_getElem? (i := 411) rfl
theorem ts_362 : Cond.code y_M_go prog_7_method_29_code 5 none ∈ TsG := List.mem_of_getElem? (i := 412) rfl
theorem ts_363 : Cond.methodLink "ClassifySortModel" 141 y_M_go ∈ TsG := List.mem_of_getElem? (i := 413) rfl
theorem ts_364 : Cond.instanceMethod y_M_go ∈ TsG := List.mem_of_getElem? (i := 414) rfl
theorem ts_365 : Cond.selects "ClassifySortModel" y_M_go y_M_go ∈ TsG := List.mem_of_getElem? (i := 415) rfl
theorem ts_366 : Cond.fieldLink "ClassifySortModel" 145 "ClassifySortModel" "questions" "I" ∈ TsG := List.mem_of_getElem? (i := 416) rfl
theorem ts_367 : Cond.code y_M_isSecond prog_7_method_31_code 4 (some .boolean) ∈ TsG := List.mem_of_getElem? (i := 417) rfl
theorem ts_368 : Cond.methodLink "ClassifySortModel" 148 y_M_isSecond ∈ TsG := List.mem_of_getElem? (i := 418) rfl
theorem ts_369 : Cond.instanceMethod y_M_isSecond ∈ TsG := List.mem_of_getElem? (i := 419) rfl
theorem ts_370 : Cond.selects "ClassifySortModel" y_M_isSecond y_M_isSecond ∈ TsG := List.mem_of_getElem? (i := 420) rfl
theorem ts_371 : Cond.code y_M_hasBelow prog_7_method_32_code 4 (some .boolean) ∈ TsG := List.mem_of_getElem? (i := 421) rfl
theorem ts_372 : Cond.methodLink "ClassifySortModel" 151 y_M_hasBelow ∈ TsG := List.mem_of_getElem? (i := 422) rfl
theorem ts_373 : Cond.instanceMethod y_M_hasBelow ∈ TsG := List.mem_of_getElem? (i := 423) rfl
theorem ts_374 : Cond.selects "ClassifySortModel" y_M_hasBelow y_M_hasBelow ∈ TsG := List.mem_of_getElem? (i := 424) rfl
theorem ts_375 : Cond.fieldLink "ClassifySortModel" 27 "ClassifySortModel" "member" "[Z" ∈ TsG := List.mem_of_getElem? (i := 425) rfl
theorem ts_376 : Cond.code y_M_reasonThing prog_7_method_14_code 4 (some .int) ∈ TsG := List.mem_of_getElem? (i := 426) rfl
theorem ts_377 : Cond.methodLink "ClassifySortModel" 154 y_M_reasonThing ∈ TsG := List.mem_of_getElem? (i := 427) rfl
theorem ts_378 : Cond.instanceMethod y_M_reasonThing ∈ TsG := List.mem_of_getElem? (i := 428) rfl
theorem ts_379 : Cond.selects "ClassifySortModel" y_M_reasonThing y_M_reasonThing ∈ TsG := List.mem_of_getElem? (i := 429) rfl
theorem ts_380 : Cond.code y_M_isIn prog_7_method_39_code 3 (some .boolean) ∈ TsG := List.mem_of_getElem? (i := 430) rfl
theorem ts_381 : Cond.methodLink "ClassifySortModel" 157 y_M_isIn ∈ TsG := List.mem_of_getElem? (i := 431) rfl
theorem ts_382 : Cond.instanceMethod y_M_isIn ∈ TsG := List.mem_of_getElem? (i := 432) rfl
theorem ts_383 : Cond.selects "ClassifySortModel" y_M_isIn y_M_isIn ∈ TsG := List.mem_of_getElem? (i := 433) rfl
theorem ts_384 : Cond.fieldLink "ClassifySortModel" 51 "ClassifySortModel" "needed" "[Z" ∈ TsG := List.mem_of_getElem? (i := 434) rfl
theorem in_0 : ∀ w ∈ u_ws "ClassifySort" T_X 9, w ∈ TsG := by
  intro w hw
  obtain ⟨k, hk, rfl⟩ := List.mem_map.mp hw
  have hk := List.mem_range.mp hk
  match k, hk with
  | 0, _ => exact List.mem_of_getElem? (i := 0) rfl
  | 1, _ => exact List.mem_of_getElem? (i := 1) rfl
  | 2, _ => exact List.mem_of_getElem? (i := 2) rfl
  | 3, _ => exact List.mem_of_getElem? (i := 3) rfl
  | 4, _ => exact List.mem_of_getElem? (i := 4) rfl
  | 5, _ => exact List.mem_of_getElem? (i := 5) rfl
  | 6, _ => exact List.mem_of_getElem? (i := 6) rfl
  | 7, _ => exact List.mem_of_getElem? (i := 7) rfl
  | 8, _ => exact List.mem_of_getElem? (i := 8) rfl
  | k + 9, h => exact absurd h (by omega)
theorem in_1 : ∀ w ∈ u_ws "ClassifySort$Axioms" T_XA 4, w ∈ TsG := by
  intro w hw
  obtain ⟨k, hk, rfl⟩ := List.mem_map.mp hw
  have hk := List.mem_range.mp hk
  match k, hk with
  | 0, _ => exact List.mem_of_getElem? (i := 9) rfl
  | 1, _ => exact List.mem_of_getElem? (i := 10) rfl
  | 2, _ => exact List.mem_of_getElem? (i := 11) rfl
  | 3, _ => exact List.mem_of_getElem? (i := 12) rfl
  | k + 4, h => exact absurd h (by omega)
theorem in_2 : ∀ w ∈ u_ws "ClassifySort$Reasoner" T_XR 5, w ∈ TsG := by
  intro w hw
  obtain ⟨k, hk, rfl⟩ := List.mem_map.mp hw
  have hk := List.mem_range.mp hk
  match k, hk with
  | 0, _ => exact List.mem_of_getElem? (i := 13) rfl
  | 1, _ => exact List.mem_of_getElem? (i := 14) rfl
  | 2, _ => exact List.mem_of_getElem? (i := 15) rfl
  | 3, _ => exact List.mem_of_getElem? (i := 16) rfl
  | 4, _ => exact List.mem_of_getElem? (i := 17) rfl
  | k + 5, h => exact absurd h (by omega)
theorem in_3 : ∀ w ∈ u_ws "ClassifySort$Knowledge" T_XK 4, w ∈ TsG := by
  intro w hw
  obtain ⟨k, hk, rfl⟩ := List.mem_map.mp hw
  have hk := List.mem_range.mp hk
  match k, hk with
  | 0, _ => exact List.mem_of_getElem? (i := 18) rfl
  | 1, _ => exact List.mem_of_getElem? (i := 19) rfl
  | 2, _ => exact List.mem_of_getElem? (i := 20) rfl
  | 3, _ => exact List.mem_of_getElem? (i := 21) rfl
  | k + 4, h => exact absurd h (by omega)
theorem in_4 : ∀ w ∈ u_ws "ClassifySort$Order" T_XO 5, w ∈ TsG := by
  intro w hw
  obtain ⟨k, hk, rfl⟩ := List.mem_map.mp hw
  have hk := List.mem_range.mp hk
  match k, hk with
  | 0, _ => exact List.mem_of_getElem? (i := 22) rfl
  | 1, _ => exact List.mem_of_getElem? (i := 23) rfl
  | 2, _ => exact List.mem_of_getElem? (i := 24) rfl
  | 3, _ => exact List.mem_of_getElem? (i := 25) rfl
  | 4, _ => exact List.mem_of_getElem? (i := 26) rfl
  | k + 5, h => exact absurd h (by omega)
theorem in_5 : ∀ w ∈ u_ws "ClassifySortModel" T_M 23, w ∈ TsG := by
  intro w hw
  obtain ⟨k, hk, rfl⟩ := List.mem_map.mp hw
  have hk := List.mem_range.mp hk
  match k, hk with
  | 0, _ => exact List.mem_of_getElem? (i := 27) rfl
  | 1, _ => exact List.mem_of_getElem? (i := 28) rfl
  | 2, _ => exact List.mem_of_getElem? (i := 29) rfl
  | 3, _ => exact List.mem_of_getElem? (i := 30) rfl
  | 4, _ => exact List.mem_of_getElem? (i := 31) rfl
  | 5, _ => exact List.mem_of_getElem? (i := 32) rfl
  | 6, _ => exact List.mem_of_getElem? (i := 33) rfl
  | 7, _ => exact List.mem_of_getElem? (i := 34) rfl
  | 8, _ => exact List.mem_of_getElem? (i := 35) rfl
  | 9, _ => exact List.mem_of_getElem? (i := 36) rfl
  | 10, _ => exact List.mem_of_getElem? (i := 37) rfl
  | 11, _ => exact List.mem_of_getElem? (i := 38) rfl
  | 12, _ => exact List.mem_of_getElem? (i := 39) rfl
  | 13, _ => exact List.mem_of_getElem? (i := 40) rfl
  | 14, _ => exact List.mem_of_getElem? (i := 41) rfl
  | 15, _ => exact List.mem_of_getElem? (i := 42) rfl
  | 16, _ => exact List.mem_of_getElem? (i := 43) rfl
  | 17, _ => exact List.mem_of_getElem? (i := 44) rfl
  | 18, _ => exact List.mem_of_getElem? (i := 45) rfl
  | 19, _ => exact List.mem_of_getElem? (i := 46) rfl
  | 20, _ => exact List.mem_of_getElem? (i := 47) rfl
  | 21, _ => exact List.mem_of_getElem? (i := 48) rfl
  | 22, _ => exact List.mem_of_getElem? (i := 49) rfl
  | k + 23, h => exact absurd h (by omega)
end
section
def wX (s : jS) (a : jB) : jW := [.inr (0, [.ref 1, .ref 4, .ref 6, .ref 11, .ref 12, .int (s 0), .int (s 1), .int (s 2), .int (s 3)]), .inr (1, [.ref 2, .ref 3, .int (s 4), .int (s 5)]), .inl (0, 40, a 2), .inl (0, 40, a 3), .inr (2, [.ref 1, .ref 5, .int (s 6), .int (s 7), .int (s 8)]), .inl (0, 20, a 5), .inr (3, [.ref 7, .ref 8, .ref 9, .ref 10]), .inl (0, 21, a 7), .inl (0, 21, a 8), .inl (0, 21, a 9), .inl (0, 21, a 10), .inr (4, [.ref 6, .ref 4, .int (s 9), .int (s 10), .int (s 11)]), .inl (0, 8, a 12)]
theorem wX_at0 (s : jS) (a : jB) : (wX s a)[0]? = some (.inr (0, [.ref 1, .ref 4, .ref 6, .ref 11, .ref 12, .int (s 0), .int (s 1), .int (s 2), .int (s 3)])) := rfl
theorem wX_at1 (s : jS) (a : jB) : (wX s a)[1]? = some (.inr (1, [.ref 2, .ref 3, .int (s 4), .int (s 5)])) := rfl
theorem wX_at2 (s : jS) (a : jB) : (wX s a)[2]? = some (.inl (0, 40, a 2)) := rfl
theorem wX_at3 (s : jS) (a : jB) : (wX s a)[3]? = some (.inl (0, 40, a 3)) := rfl
theorem wX_at4 (s : jS) (a : jB) : (wX s a)[4]? = some (.inr (2, [.ref 1, .ref 5, .int (s 6), .int (s 7), .int (s 8)])) := rfl
theorem wX_at5 (s : jS) (a : jB) : (wX s a)[5]? = some (.inl (0, 20, a 5)) := rfl
theorem wX_at6 (s : jS) (a : jB) : (wX s a)[6]? = some (.inr (3, [.ref 7, .ref 8, .ref 9, .ref 10])) := rfl
theorem wX_at7 (s : jS) (a : jB) : (wX s a)[7]? = some (.inl (0, 21, a 7)) := rfl
theorem wX_at8 (s : jS) (a : jB) : (wX s a)[8]? = some (.inl (0, 21, a 8)) := rfl
theorem wX_at9 (s : jS) (a : jB) : (wX s a)[9]? = some (.inl (0, 21, a 9)) := rfl
theorem wX_at10 (s : jS) (a : jB) : (wX s a)[10]? = some (.inl (0, 21, a 10)) := rfl
theorem wX_at11 (s : jS) (a : jB) : (wX s a)[11]? = some (.inr (4, [.ref 6, .ref 4, .int (s 9), .int (s 10), .int (s 11)])) := rfl
theorem wX_at12 (s : jS) (a : jB) : (wX s a)[12]? = some (.inl (0, 8, a 12)) := rfl
theorem wX_put0 (s : jS) (a : jB) (x : Int32) : (wX s a).set 0 (.inr (0, ([.ref 1, .ref 4, .ref 6, .ref 11, .ref 12, .int (s 0), .int (s 1), .int (s 2), .int (s 3)] : List Value).set 5 (.int x))) = wX (upd s 0 x) a := rfl
theorem wX_put1 (s : jS) (a : jB) (x : Int32) : (wX s a).set 0 (.inr (0, ([.ref 1, .ref 4, .ref 6, .ref 11, .ref 12, .int (s 0), .int (s 1), .int (s 2), .int (s 3)] : List Value).set 6 (.int x))) = wX (upd s 1 x) a := rfl
theorem wX_put2 (s : jS) (a : jB) (x : Int32) : (wX s a).set 0 (.inr (0, ([.ref 1, .ref 4, .ref 6, .ref 11, .ref 12, .int (s 0), .int (s 1), .int (s 2), .int (s 3)] : List Value).set 7 (.int x))) = wX (upd s 2 x) a := rfl
theorem wX_put3 (s : jS) (a : jB) (x : Int32) : (wX s a).set 0 (.inr (0, ([.ref 1, .ref 4, .ref 6, .ref 11, .ref 12, .int (s 0), .int (s 1), .int (s 2), .int (s 3)] : List Value).set 8 (.int x))) = wX (upd s 3 x) a := rfl
theorem wX_put4 (s : jS) (a : jB) (x : Int32) : (wX s a).set 1 (.inr (1, ([.ref 2, .ref 3, .int (s 4), .int (s 5)] : List Value).set 2 (.int x))) = wX (upd s 4 x) a := rfl
theorem wX_put5 (s : jS) (a : jB) (x : Int32) : (wX s a).set 1 (.inr (1, ([.ref 2, .ref 3, .int (s 4), .int (s 5)] : List Value).set 3 (.int x))) = wX (upd s 5 x) a := rfl
theorem wX_ast2 (s : jS) (a : jB) (f : Nat → Int32) : (wX s a).set 2 (.inl (0, 40, f)) = wX s (va_up a 2 f) := rfl
theorem wX_ast3 (s : jS) (a : jB) (f : Nat → Int32) : (wX s a).set 3 (.inl (0, 40, f)) = wX s (va_up a 3 f) := rfl
theorem wX_put6 (s : jS) (a : jB) (x : Int32) : (wX s a).set 4 (.inr (2, ([.ref 1, .ref 5, .int (s 6), .int (s 7), .int (s 8)] : List Value).set 2 (.int x))) = wX (upd s 6 x) a := rfl
theorem wX_put7 (s : jS) (a : jB) (x : Int32) : (wX s a).set 4 (.inr (2, ([.ref 1, .ref 5, .int (s 6), .int (s 7), .int (s 8)] : List Value).set 3 (.int x))) = wX (upd s 7 x) a := rfl
theorem wX_put8 (s : jS) (a : jB) (x : Int32) : (wX s a).set 4 (.inr (2, ([.ref 1, .ref 5, .int (s 6), .int (s 7), .int (s 8)] : List Value).set 4 (.int x))) = wX (upd s 8 x) a := rfl
theorem wX_ast5 (s : jS) (a : jB) (f : Nat → Int32) : (wX s a).set 5 (.inl (0, 20, f)) = wX s (va_up a 5 f) := rfl
theorem wX_ast7 (s : jS) (a : jB) (f : Nat → Int32) : (wX s a).set 7 (.inl (0, 21, f)) = wX s (va_up a 7 f) := rfl
theorem wX_ast8 (s : jS) (a : jB) (f : Nat → Int32) : (wX s a).set 8 (.inl (0, 21, f)) = wX s (va_up a 8 f) := rfl
theorem wX_ast9 (s : jS) (a : jB) (f : Nat → Int32) : (wX s a).set 9 (.inl (0, 21, f)) = wX s (va_up a 9 f) := rfl
theorem wX_ast10 (s : jS) (a : jB) (f : Nat → Int32) : (wX s a).set 10 (.inl (0, 21, f)) = wX s (va_up a 10 f) := rfl
theorem wX_put9 (s : jS) (a : jB) (x : Int32) : (wX s a).set 11 (.inr (4, ([.ref 6, .ref 4, .int (s 9), .int (s 10), .int (s 11)] : List Value).set 2 (.int x))) = wX (upd s 9 x) a := rfl
theorem wX_put10 (s : jS) (a : jB) (x : Int32) : (wX s a).set 11 (.inr (4, ([.ref 6, .ref 4, .int (s 9), .int (s 10), .int (s 11)] : List Value).set 3 (.int x))) = wX (upd s 10 x) a := rfl
theorem wX_put11 (s : jS) (a : jB) (x : Int32) : (wX s a).set 11 (.inr (4, ([.ref 6, .ref 4, .int (s 9), .int (s 10), .int (s 11)] : List Value).set 4 (.int x))) = wX (upd s 11 x) a := rfl
theorem wX_ast12 (s : jS) (a : jB) (f : Nat → Int32) : (wX s a).set 12 (.inl (0, 8, f)) = wX s (va_up a 12 f) := rfl
def wM (s : jS) (a : jB) : jW := [.inr (5, [.int (s 0), .int (s 1), .int (s 2), .int (s 3), .int (s 4), .int (s 5), .int (s 6), .ref 1, .ref 2, .ref 3, .ref 4, .ref 5, .ref 6, .ref 7, .ref 8, .ref 9, .ref 10, .ref 11, .ref 12, .int (s 7), .ref 13, .ref 14, .int (s 8)]), .inl (0, 40, a 1), .inl (0, 40, a 2), .inl (0, 40, a 3), .inl (1, 40, a 4), .inl (1, 160, a 5), .inl (0, 420, a 6), .inl (0, 420, a 7), .inl (1, 20, a 8), .inl (1, 20, a 9), .inl (1, 21, a 10), .inl (0, 21, a 11), .inl (0, 40, a 12), .inl (1, 40, a 13), .inl (1, 21, a 14)]
theorem wM_at0 (s : jS) (a : jB) : (wM s a)[0]? = some (.inr (5, [.int (s 0), .int (s 1), .int (s 2), .int (s 3), .int (s 4), .int (s 5), .int (s 6), .ref 1, .ref 2, .ref 3, .ref 4, .ref 5, .ref 6, .ref 7, .ref 8, .ref 9, .ref 10, .ref 11, .ref 12, .int (s 7), .ref 13, .ref 14, .int (s 8)])) := rfl
theorem wM_at1 (s : jS) (a : jB) : (wM s a)[1]? = some (.inl (0, 40, a 1)) := rfl
theorem wM_at2 (s : jS) (a : jB) : (wM s a)[2]? = some (.inl (0, 40, a 2)) := rfl
theorem wM_at3 (s : jS) (a : jB) : (wM s a)[3]? = some (.inl (0, 40, a 3)) := rfl
theorem wM_at4 (s : jS) (a : jB) : (wM s a)[4]? = some (.inl (1, 40, a 4)) := rfl
theorem wM_at5 (s : jS) (a : jB) : (wM s a)[5]? = some (.inl (1, 160, a 5)) := rfl
theorem wM_at6 (s : jS) (a : jB) : (wM s a)[6]? = some (.inl (0, 420, a 6)) := rfl
theorem wM_at7 (s : jS) (a : jB) : (wM s a)[7]? = some (.inl (0, 420, a 7)) := rfl
theorem wM_at8 (s : jS) (a : jB) : (wM s a)[8]? = some (.inl (1, 20, a 8)) := rfl
theorem wM_at9 (s : jS) (a : jB) : (wM s a)[9]? = some (.inl (1, 20, a 9)) := rfl
theorem wM_at10 (s : jS) (a : jB) : (wM s a)[10]? = some (.inl (1, 21, a 10)) := rfl
theorem wM_at11 (s : jS) (a : jB) : (wM s a)[11]? = some (.inl (0, 21, a 11)) := rfl
theorem wM_at12 (s : jS) (a : jB) : (wM s a)[12]? = some (.inl (0, 40, a 12)) := rfl
theorem wM_at13 (s : jS) (a : jB) : (wM s a)[13]? = some (.inl (1, 40, a 13)) := rfl
theorem wM_at14 (s : jS) (a : jB) : (wM s a)[14]? = some (.inl (1, 21, a 14)) := rfl
theorem wM_put0 (s : jS) (a : jB) (x : Int32) : (wM s a).set 0 (.inr (5, ([.int (s 0), .int (s 1), .int (s 2), .int (s 3), .int (s 4), .int (s 5), .int (s 6), .ref 1, .ref 2, .ref 3, .ref 4, .ref 5, .ref 6, .ref 7, .ref 8, .ref 9, .ref 10, .ref 11, .ref 12, .int (s 7), .ref 13, .ref 14, .int (s 8)] : List Value).set 0 (.int x))) = wM (upd s 0 x) a := rfl
theorem wM_put1 (s : jS) (a : jB) (x : Int32) : (wM s a).set 0 (.inr (5, ([.int (s 0), .int (s 1), .int (s 2), .int (s 3), .int (s 4), .int (s 5), .int (s 6), .ref 1, .ref 2, .ref 3, .ref 4, .ref 5, .ref 6, .ref 7, .ref 8, .ref 9, .ref 10, .ref 11, .ref 12, .int (s 7), .ref 13, .ref 14, .int (s 8)] : List Value).set 1 (.int x))) = wM (upd s 1 x) a := rfl
theorem wM_put2 (s : jS) (a : jB) (x : Int32) : (wM s a).set 0 (.inr (5, ([.int (s 0), .int (s 1), .int (s 2), .int (s 3), .int (s 4), .int (s 5), .int (s 6), .ref 1, .ref 2, .ref 3, .ref 4, .ref 5, .ref 6, .ref 7, .ref 8, .ref 9, .ref 10, .ref 11, .ref 12, .int (s 7), .ref 13, .ref 14, .int (s 8)] : List Value).set 2 (.int x))) = wM (upd s 2 x) a := rfl
theorem wM_put3 (s : jS) (a : jB) (x : Int32) : (wM s a).set 0 (.inr (5, ([.int (s 0), .int (s 1), .int (s 2), .int (s 3), .int (s 4), .int (s 5), .int (s 6), .ref 1, .ref 2, .ref 3, .ref 4, .ref 5, .ref 6, .ref 7, .ref 8, .ref 9, .ref 10, .ref 11, .ref 12, .int (s 7), .ref 13, .ref 14, .int (s 8)] : List Value).set 3 (.int x))) = wM (upd s 3 x) a := rfl
theorem wM_put4 (s : jS) (a : jB) (x : Int32) : (wM s a).set 0 (.inr (5, ([.int (s 0), .int (s 1), .int (s 2), .int (s 3), .int (s 4), .int (s 5), .int (s 6), .ref 1, .ref 2, .ref 3, .ref 4, .ref 5, .ref 6, .ref 7, .ref 8, .ref 9, .ref 10, .ref 11, .ref 12, .int (s 7), .ref 13, .ref 14, .int (s 8)] : List Value).set 4 (.int x))) = wM (upd s 4 x) a := rfl
theorem wM_put5 (s : jS) (a : jB) (x : Int32) : (wM s a).set 0 (.inr (5, ([.int (s 0), .int (s 1), .int (s 2), .int (s 3), .int (s 4), .int (s 5), .int (s 6), .ref 1, .ref 2, .ref 3, .ref 4, .ref 5, .ref 6, .ref 7, .ref 8, .ref 9, .ref 10, .ref 11, .ref 12, .int (s 7), .ref 13, .ref 14, .int (s 8)] : List Value).set 5 (.int x))) = wM (upd s 5 x) a := rfl
theorem wM_put6 (s : jS) (a : jB) (x : Int32) : (wM s a).set 0 (.inr (5, ([.int (s 0), .int (s 1), .int (s 2), .int (s 3), .int (s 4), .int (s 5), .int (s 6), .ref 1, .ref 2, .ref 3, .ref 4, .ref 5, .ref 6, .ref 7, .ref 8, .ref 9, .ref 10, .ref 11, .ref 12, .int (s 7), .ref 13, .ref 14, .int (s 8)] : List Value).set 6 (.int x))) = wM (upd s 6 x) a := rfl
theorem wM_put7 (s : jS) (a : jB) (x : Int32) : (wM s a).set 0 (.inr (5, ([.int (s 0), .int (s 1), .int (s 2), .int (s 3), .int (s 4), .int (s 5), .int (s 6), .ref 1, .ref 2, .ref 3, .ref 4, .ref 5, .ref 6, .ref 7, .ref 8, .ref 9, .ref 10, .ref 11, .ref 12, .int (s 7), .ref 13, .ref 14, .int (s 8)] : List Value).set 19 (.int x))) = wM (upd s 7 x) a := rfl
theorem wM_put8 (s : jS) (a : jB) (x : Int32) : (wM s a).set 0 (.inr (5, ([.int (s 0), .int (s 1), .int (s 2), .int (s 3), .int (s 4), .int (s 5), .int (s 6), .ref 1, .ref 2, .ref 3, .ref 4, .ref 5, .ref 6, .ref 7, .ref 8, .ref 9, .ref 10, .ref 11, .ref 12, .int (s 7), .ref 13, .ref 14, .int (s 8)] : List Value).set 22 (.int x))) = wM (upd s 8 x) a := rfl
theorem wM_ast1 (s : jS) (a : jB) (f : Nat → Int32) : (wM s a).set 1 (.inl (0, 40, f)) = wM s (va_up a 1 f) := rfl
theorem wM_ast2 (s : jS) (a : jB) (f : Nat → Int32) : (wM s a).set 2 (.inl (0, 40, f)) = wM s (va_up a 2 f) := rfl
theorem wM_ast3 (s : jS) (a : jB) (f : Nat → Int32) : (wM s a).set 3 (.inl (0, 40, f)) = wM s (va_up a 3 f) := rfl
theorem wM_ast4 (s : jS) (a : jB) (f : Nat → Int32) : (wM s a).set 4 (.inl (1, 40, f)) = wM s (va_up a 4 f) := rfl
theorem wM_ast5 (s : jS) (a : jB) (f : Nat → Int32) : (wM s a).set 5 (.inl (1, 160, f)) = wM s (va_up a 5 f) := rfl
theorem wM_ast6 (s : jS) (a : jB) (f : Nat → Int32) : (wM s a).set 6 (.inl (0, 420, f)) = wM s (va_up a 6 f) := rfl
theorem wM_ast7 (s : jS) (a : jB) (f : Nat → Int32) : (wM s a).set 7 (.inl (0, 420, f)) = wM s (va_up a 7 f) := rfl
theorem wM_ast8 (s : jS) (a : jB) (f : Nat → Int32) : (wM s a).set 8 (.inl (1, 20, f)) = wM s (va_up a 8 f) := rfl
theorem wM_ast9 (s : jS) (a : jB) (f : Nat → Int32) : (wM s a).set 9 (.inl (1, 20, f)) = wM s (va_up a 9 f) := rfl
theorem wM_ast10 (s : jS) (a : jB) (f : Nat → Int32) : (wM s a).set 10 (.inl (1, 21, f)) = wM s (va_up a 10 f) := rfl
theorem wM_ast11 (s : jS) (a : jB) (f : Nat → Int32) : (wM s a).set 11 (.inl (0, 21, f)) = wM s (va_up a 11 f) := rfl
theorem wM_ast12 (s : jS) (a : jB) (f : Nat → Int32) : (wM s a).set 12 (.inl (0, 40, f)) = wM s (va_up a 12 f) := rfl
theorem wM_ast13 (s : jS) (a : jB) (f : Nat → Int32) : (wM s a).set 13 (.inl (1, 40, f)) = wM s (va_up a 13 f) := rfl
theorem wM_ast14 (s : jS) (a : jB) (f : Nat → Int32) : (wM s a).set 14 (.inl (1, 21, f)) = wM s (va_up a 14 f) := rfl
end

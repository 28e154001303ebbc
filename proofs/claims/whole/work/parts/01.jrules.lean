/-! J: a method's frame over a world of fixed cells. A reference is the cell's place in the world; 'ad' gives its address. -/
abbrev jE : Type := (Nat × Nat × (Nat → Int32)) ⊕ (Nat × List Value)
abbrev jW : Type := List jE
def jv (ad : Nat → Nat) : Value → Value
  | .ref k => .ref (ad k)
  | v => v
def je (cA : Nat → ClassId) (ad : Nat → Nat) : jE → va_E
  | .inl (t, n, f) => .inl (cA t, n, .inl f)
  | .inr (ci, fs) => .inr (ci, fs.map (jv ad))
def jwA (cA : Nat → ClassId) (ad : Nat → Nat) : Nat → jW → va_W
  | _, [] => []
  | j, e :: t => (ad j, je cA ad e) :: jwA cA ad (j + 1) t
def jw (cA : Nat → ClassId) (ad : Nat → Nat) (ws : jW) : va_W := jwA cA ad 0 ws
theorem jwA_at {cA : Nat → ClassId} {ad : Nat → Nat} {e : jE} : ∀ {ws : jW} {k : Nat} (j : Nat), ws[k]? = some e → (jwA cA ad j ws)[k]? = some (ad (j + k), je cA ad e) := by
  intro ws
  induction ws with
  | nil => intro k j h; simp at h
  | cons x t ih =>
    intro k j h
    cases k with
    | zero =>
      simp only [List.getElem?_cons_zero, Option.some.injEq] at h
      subst h
      rfl
    | succ k =>
      rw [List.getElem?_cons_succ] at h
      have := ih (j + 1) h
      simp only [jwA, List.getElem?_cons_succ]
      rw [this]
      congr 3
      omega
theorem jw_at {cA : Nat → ClassId} {ad : Nat → Nat} {ws : jW} {k : Nat} {e : jE} (h : ws[k]? = some e) : (jw cA ad ws)[k]? = some (ad k, je cA ad e) := by
  have := jwA_at (cA := cA) (ad := ad) 0 h
  rwa [Nat.zero_add] at this
theorem jwA_len {cA : Nat → ClassId} {ad : Nat → Nat} : ∀ {ws : jW} (j : Nat), (jwA cA ad j ws).length = ws.length := by
  intro ws
  induction ws with
  | nil => intro j; rfl
  | cons x t ih => intro j; simp only [jwA, List.length_cons, ih]
theorem jw_len {cA : Nat → ClassId} {ad : Nat → Nat} {ws : jW} : (jw cA ad ws).length = ws.length := jwA_len 0
theorem jwA_set {cA : Nat → ClassId} {ad : Nat → Nat} {e : jE} : ∀ {ws : jW} {k : Nat} (j : Nat), (jwA cA ad j ws).set k (ad (j + k), je cA ad e) = jwA cA ad j (ws.set k e) := by
  intro ws
  induction ws with
  | nil => intro k j; rfl
  | cons x t ih =>
    intro k j
    cases k with
    | zero => rfl
    | succ k =>
      simp only [jwA, List.set_cons_succ]
      rw [← ih (j + 1), show j + (k + 1) = j + 1 + k by omega]
theorem jw_set {cA : Nat → ClassId} {ad : Nat → Nat} {ws : jW} {k : Nat} {e : jE} : (jw cA ad ws).set k (ad k, je cA ad e) = jw cA ad (ws.set k e) := by
  have := jwA_set (cA := cA) (ad := ad) (e := e) (ws := ws) (k := k) 0
  rwa [Nat.zero_add] at this
def jT (cA : Nat → ClassId) : List (ClassId × FieldType) := [(cA 0, .int), (cA 1, .boolean)]
def jA (ad : Nat → Nat) (n : Nat) : Nat → Prop := fun q => ∃ k, k < n ∧ q = ad k
/-- the locals: none is not known; only values of one slot are told -/
def jl (ad : Nat → Nat) : Nat → List (Option Value) → List (Nat × Value)
  | _, [] => []
  | i, none :: t => jl ad (i + 1) t
  | i, some v :: t => if v.category = 1 then (i, jv ad v) :: jl ad (i + 1) t else jl ad (i + 1) t
theorem jv_cat (ad : Nat → Nat) (v : Value) : (jv ad v).category = v.category := by cases v <;> rfl
theorem jl_mem {ad : Nat → Nat} {q : Nat × Value} : ∀ {ls : List (Option Value)} {j : Nat}, q ∈ jl ad j ls ↔ ∃ (k : Nat) (v : Value), ls[k]? = some (some v) ∧ v.category = 1 ∧ q = (j + k, jv ad v) := by
  intro ls
  induction ls with
  | nil => intro j; simp [jl]
  | cons x t ih =>
    intro j
    have key : (∃ (k : Nat) (v : Value), t[k]? = some (some v) ∧ v.category = 1 ∧ q = (j + 1 + k, jv ad v)) ↔ (∃ (k : Nat) (v : Value), (x :: t)[k + 1]? = some (some v) ∧ v.category = 1 ∧ q = (j + (k + 1), jv ad v)) := by
      constructor
      · rintro ⟨k, v, h1, h2, h3⟩; exact ⟨k, v, by simpa using h1, h2, by rw [h3]; congr 1; omega⟩
      · rintro ⟨k, v, h1, h2, h3⟩; exact ⟨k, v, by simpa using h1, h2, by rw [h3]; congr 1; omega⟩
    cases x with
    | none =>
      simp only [jl]
      rw [ih, key]
      constructor
      · rintro ⟨k, v, h⟩; exact ⟨k + 1, v, h⟩
      · rintro ⟨k, v, h1, h⟩
        cases k with
        | zero => simp at h1
        | succ k => exact ⟨k, v, h1, h⟩
    | some v0 =>
      by_cases hc : v0.category = 1
      · simp only [jl, hc, if_true, List.mem_cons]
        rw [ih, key]
        constructor
        · rintro (h | ⟨k, v, h⟩)
          · exact ⟨0, v0, by simp, hc, h⟩
          · exact ⟨k + 1, v, h⟩
        · rintro ⟨k, v, h1, h2, h3⟩
          cases k with
          | zero => simp at h1; subst h1; exact Or.inl h3
          | succ k => exact Or.inr ⟨k, v, h1, h2, h3⟩
      · simp only [jl, hc, if_false]
        rw [ih, key]
        constructor
        · rintro ⟨k, v, h⟩; exact ⟨k + 1, v, h⟩
        · rintro ⟨k, v, h1, h2, h⟩
          cases k with
          | zero => simp at h1; subst h1; exact absurd h2 hc
          | succ k => exact ⟨k, v, h1, h2, h⟩
theorem jl_at {ad : Nat → Nat} {lsA : Array Slot} {nL i : Nat} {ls : List (Option Value)} {v : Value} (hl : lv_has lsA nL (jl ad 0 ls)) (h : ls[i]? = some (some v)) (hc : v.category = 1) : lsA[i]? = some (.val (jv ad v)) :=
  hl.2.2 (i, jv ad v) (jl_mem.mpr ⟨i, v, h, hc, by simp⟩)
theorem jl_store {ad : Nat → Nat} {lsA : Array Slot} {nL i : Nat} {ls : List (Option Value)} {v : Value} (hl : lv_has lsA nL ((i, jv ad v) :: (jl ad 0 ls).filter (fun q => !(q.1 == i) && !(q.1 + 1 == i && q.2.category == 2)))) : lv_has lsA nL (jl ad 0 (ls.set i (some v))) := by
  refine ⟨hl.1, hl.2.1, fun q hq => hl.2.2 q ?_⟩
  obtain ⟨k, u, h1, h2, h3⟩ := jl_mem.mp hq
  rw [List.getElem?_set] at h1
  by_cases hk : i = k
  · subst hk
    rw [if_pos rfl] at h1
    split at h1
    · simp only [Option.some.injEq] at h1
      subst h1
      simp [h3]
    · simp at h1
  · rw [if_neg hk] at h1
    refine List.mem_cons_of_mem _ (List.mem_filter.mpr ⟨jl_mem.mpr ⟨k, u, h1, h2, h3⟩, ?_⟩)
    have hk' : ¬ k = i := fun h => hk h.symm
    rw [h3]
    simp [jv_cat, h2, hk']
def jQ (cl : List vw_C) (cA : Nat → ClassId) (D : va_G) (ad : Nat → Nat) (A : Nat → Prop) (n : Nat) (Q : Option Value → jW → Prop) : Array Value → State → Outcome → State → Prop :=
  fun _ st oc t => (∃ (r : Option Value) (w : jW), oc = .returned (r.map (jv ad)) ∧ Q r w ∧ w.length = n ∧ va_P D cl (jw cA ad w) t.heap ∧ va_K D cl (jT cA) t ∧ va_D A (jw cA ad w)) ∧ va_F A st t
/-- what stands around a frame of ours -/
abbrev jNt : Type := List (String × Nat × MethodName × String)
def jN (Ns : jNt) (U : State) : Prop := ∀ q ∈ Ns, va_Nw (.methodLinkNest q.1 q.2.1 q.2.2.1 q.2.2.2) U
theorem jN_warm {Ns : jNt} {s U : State} (hW : s.WarmedH U.vm) (h : jN Ns s) : jN Ns U := fun q hq => va_Nw.warmM hW (h q hq)
def jC (cl : List vw_C) (Ns : jNt) (Ts : List Cond) (own : String) (cc : ByteArray) (nL : Nat) (ret : Option FieldType) (ls : List (Option Value)) (ws : jW) (p : Program) (s : State) (m : MethodId) (args : Array Value) (meth : Method) (c : Code) (H : Heap) (locs : List Loc) (D : va_G) (cA : Nat → ClassId) (ad : Nat → Nat) (A : Nat → Prop) (lsA : Array Slot) : Prop :=
  p.tables.exec = Jvm.exec ∧ c.code = cc ∧ meth.sig.returnType = ret ∧ c.maxLocals = nL ∧ meth.locks = false ∧ s.vm.findClass own = some m.cls ∧ (∀ w ∈ Ts, w.before args s = true) ∧ jN Ns s ∧ va_K D cl (jT cA) s ∧ va_P D cl (jw cA ad ws) H ∧ va_D A (jw cA ad ws) ∧ va_S A s.heap H locs ∧ lv_has lsA nL (jl ad 0 ls)
/-- from pc, with these locals, this stack, this world: the method returns, and Q of what it answers and of the world then -/
def JW (l : Launch) (cl : List vw_C) (Ns : jNt) (Ts : List Cond) (own : String) (cc : ByteArray) (nL : Nat) (ret : Option FieldType) (R : Room) (pc : Nat) (ls : List (Option Value)) (st : List Value) (ws : jW) (Q : Option Value → jW → Prop) : Prop :=
  ∀ (p : Program) (e : Env) (s : State) (m : MethodId) (args : Array Value) (below : List Frame) (meth : Method) (c : Code) (H : Heap) (locs : List Loc) (D : va_G) (cA : Nat → ClassId) (ad : Nat → Nat) (A : Nat → Prop) (lsA : Array Slot),
    jC cl Ns Ts own cc nL ret ls ws p s m args meth c H locs D cA ad A lsA → W p l e R s m args below meth c H locs 0 0 (MQ below (jQ cl cA D ad A ws.length Q) args s 0 0 A) (F0 m pc lsA (st.map (jv ad)))
def JMet (l : Launch) (cl : List vw_C) (Ns : jNt) (Tw : List Cond) (y : MethodName) (R : Room) (av : List Value) (ws : jW) (Q : Option Value → jW → Prop) : Prop :=
  ∀ (D : va_G) (cA : Nat → ClassId) (ad : Nat → Nat), Met l y Tw R (va_Pc (av.map (jv ad)) (fun U => jN Ns U ∧ va_P D cl (jw cA ad ws) U.heap ∧ va_K D cl (jT cA) U ∧ va_D (jA ad ws.length) (jw cA ad ws))) (jQ cl cA D ad (jA ad ws.length) ws.length Q) 0 0 (jA ad ws.length)
theorem jl_entry {ad : Nat → Nat} {q : Nat × Value} : ∀ (av : List Value) (i k : Nat), (∀ v ∈ av, v.category = 1) → q ∈ jl ad i (av.map some ++ List.replicate k none) → q ∈ lv_args i (av.map (jv ad)) := by
  intro av
  induction av with
  | nil =>
    intro i k _ hq
    obtain ⟨j, v, h1, -⟩ := jl_mem.mp hq
    simp only [List.map_nil, List.nil_append, List.getElem?_replicate] at h1
    split at h1 <;> simp at h1
  | cons v t ih =>
    intro i k hc hq
    have hv : v.category = 1 := hc v List.mem_cons_self
    simp only [List.map_cons, List.cons_append, jl, hv, if_true, lv_args] at hq ⊢
    rw [show (if (jv ad v).category = 2 then i + 2 else i + 1) = i + 1 by rw [jv_cat, hv]; rfl]
    rcases List.mem_cons.mp hq with h | h
    · exact List.mem_cons.mpr (Or.inl h)
    · exact List.mem_cons_of_mem _ (ih (i + 1) k (fun u hu => hc u (List.mem_cons_of_mem _ hu)) h)
theorem j_sl (ad : Nat → Nat) : ∀ (av : List Value), (∀ v ∈ av, v.category = 1) → (lg_sl (av.map (jv ad))).length = av.length := by
  intro av
  induction av with
  | nil => intro _; rfl
  | cons v t ih =>
    intro hc
    have hv : v.category = 1 := hc v List.mem_cons_self
    have := ih (fun u hu => hc u (List.mem_cons_of_mem _ hu))
    simp only [lg_sl, List.map_cons, List.flatMap_cons, List.length_append, List.length_cons] at this ⊢
    rw [this, jv_cat, hv]
    simp
    omega
theorem J_enter {l : Launch} {cl : List vw_C} {Ns : jNt} {Ts : List Cond} {y : MethodName} {cc : ByteArray} {nL : Nat} {ret : Option FieldType} {R : Room} {av : List Value} {ws : jW} {Q : Option Value → jW → Prop} (hy : plainName y.cls = true) (hc0 : av.all (fun v => v.category == 1) = true) (hn : av.length ≤ nL)
    (k : JW l cl Ns Ts y.cls cc nL ret R 0 (av.map some ++ List.replicate (nL - av.length) none) [] ws Q) : JMet l cl Ns (.code y cc nL ret :: Ts) y R av ws Q := by
  have hc : ∀ v ∈ av, v.category = 1 := fun v hv => by simpa using List.all_eq_true.mp hc0 v hv
  intro D cA ad
  refine Met.ofW (cc := cc) (maxL := nL) (ret := ret) hy rfl ?_
  intro p e s m args below meth c s₁ B hml hv
  obtain ⟨rfl, hN, hP, hK, hD⟩ := hv
  have hts := atoms_spec (ws := .code y cc nL ret :: Ts) B.pre
  have hown : s.vm.findClass y.cls = some m.cls := findClass_of_methodNamed B.named
  have hl := lv_entry (av.map (jv ad)) (n := nL) (by rw [j_sl ad av hc]; exact hn)
  rw [lg_entry_eq]
  exact k p e s m _ below meth c s.heap [] D cA ad (jA ad ws.length) _ ⟨B.exec, B.bytes, B.returns, hml, B.notSynchronized, hown, fun w hw => hts w (List.mem_cons_of_mem _ hw), hN, hK, hP, hD, va_S.rf, ⟨hl.1, hl.2.1, fun q hq => hl.2.2 q (jl_entry av 0 _ hc hq)⟩⟩
section JR
variable {l : Launch} {cl : List vw_C} {Ns : jNt} {Ts : List Cond} {own : String} {cc : ByteArray} {nL : Nat} {ret : Option FieldType} {R : Room} {pc : Nat} {ls : List (Option Value)} {st : List Value} {ws : jW} {Q : Option Value → jW → Prop}
/-- the same frame, written otherwise -/
theorem J_eq {pc' : Nat} {ls' : List (Option Value)} {st' : List Value} {ws' : jW} (h1 : pc = pc') (h2 : ls = ls') (h3 : st = st') (h4 : ws = ws') (k : JW l cl Ns Ts own cc nL ret R pc' ls' st' ws' Q) : JW l cl Ns Ts own cc nL ret R pc ls st ws Q := by
  subst h1; subst h2; subst h3; subst h4; exact k
/-- fewer known locals -/
theorem J_forget {ls' : List (Option Value)} (h : ∀ (k : Nat) (v : Value), ls'[k]? = some (some v) → ls[k]? = some (some v)) (k : JW l cl Ns Ts own cc nL ret R pc ls' st ws Q) : JW l cl Ns Ts own cc nL ret R pc ls st ws Q := by
  intro p e s m args below meth c H locs D cA ad A lsA ⟨hx, hb, hr, hml, hlk, hown, hts, hN, hK, hP, hD, hS, hl⟩
  refine k p e s m args below meth c H locs D cA ad A lsA ⟨hx, hb, hr, hml, hlk, hown, hts, hN, hK, hP, hD, hS, hl.1, hl.2.1, fun q hq => hl.2.2 q ?_⟩
  obtain ⟨k, v, h1, h2⟩ := jl_mem.mp hq
  exact jl_mem.mpr ⟨k, v, h k v h1, h2⟩
theorem J_post {Q' : Option Value → jW → Prop} (h : ∀ r w, Q' r w → Q r w) (k : JW l cl Ns Ts own cc nL ret R pc ls st ws Q') : JW l cl Ns Ts own cc nL ret R pc ls st ws Q := by
  intro p e s m args below meth c H locs D cA ad A lsA X T hT Y
  obtain ⟨t, a, o, b1, b2, ⟨⟨r, w, c1, c2, c3⟩, c4⟩, b4⟩ := k p e s m args below meth c H locs D cA ad A lsA X T hT Y
  exact ⟨t, a, o, b1, b2, ⟨⟨r, w, c1, h r w c2, c3⟩, c4⟩, b4⟩
theorem J_iconst {n : Int} {v : Int32} (hd : decode cc pc = .ok (.iconst n, 1)) (hv : Int32.ofInt n = v) (k : JW l cl Ns Ts own cc nL ret R (pc + 1) ls (.int v :: st) ws Q) : JW l cl Ns Ts own cc nL ret R pc ls st ws Q := by
  intro p e s m args below meth c H locs D cA ad A lsA X
  obtain ⟨hx, hb, hr, hml, hlk, hown, hts, hN, hK, hP, hD, hS, hl⟩ := id X
  exact lv_iconst hx hb hd hv (k p e s m args below meth c H locs D cA ad A lsA X)
theorem J_bipush {n : Int} {v : Int32} (hd : decode cc pc = .ok (.bipush n, 2)) (hv : (Int8.ofInt n).toInt32 = v) (k : JW l cl Ns Ts own cc nL ret R (pc + 2) ls (.int v :: st) ws Q) : JW l cl Ns Ts own cc nL ret R pc ls st ws Q := by
  intro p e s m args below meth c H locs D cA ad A lsA X
  obtain ⟨hx, hb, hr, hml, hlk, hown, hts, hN, hK, hP, hD, hS, hl⟩ := id X
  exact lv_bipush hx hb hd hv (k p e s m args below meth c H locs D cA ad A lsA X)
theorem J_sipush {n : Int} {v : Int32} (hd : decode cc pc = .ok (.sipush n, 3)) (hv : (Int16.ofInt n).toInt32 = v) (k : JW l cl Ns Ts own cc nL ret R (pc + 3) ls (.int v :: st) ws Q) : JW l cl Ns Ts own cc nL ret R pc ls st ws Q := by
  intro p e s m args below meth c H locs D cA ad A lsA X
  obtain ⟨hx, hb, hr, hml, hlk, hown, hts, hN, hK, hP, hD, hS, hl⟩ := id X
  exact lv_sipush hx hb hd hv (k p e s m args below meth c H locs D cA ad A lsA X)
theorem J_ldc {index : Nat} {v : Int32} (hd : decode cc pc = .ok (.ldc index, 2)) (hc : Cond.constant own index v ∈ Ts) (k : JW l cl Ns Ts own cc nL ret R (pc + 2) ls (.int v :: st) ws Q) : JW l cl Ns Ts own cc nL ret R pc ls st ws Q := by
  intro p e s m args below meth c H locs D cA ad A lsA X
  obtain ⟨hx, hb, hr, hml, hlk, hown, hts, hN, hK, hP, hD, hS, hl⟩ := id X
  exact lv_ldc hx hb hown (hts _ hc) hd (k p e s m args below meth c H locs D cA ad A lsA X)
theorem J_ldcw {index : Nat} {v : Int32} (hd : decode cc pc = .ok (.ldc_w index, 3)) (hc : Cond.constant own index v ∈ Ts) (k : JW l cl Ns Ts own cc nL ret R (pc + 3) ls (.int v :: st) ws Q) : JW l cl Ns Ts own cc nL ret R pc ls st ws Q := by
  intro p e s m args below meth c H locs D cA ad A lsA X
  obtain ⟨hx, hb, hr, hml, hlk, hown, hts, hN, hK, hP, hD, hS, hl⟩ := id X
  exact lv_ldcw hx hb hown (hts _ hc) hd (k p e s m args below meth c H locs D cA ad A lsA X)
theorem J_iload_n {i : Fin 4} {x : Int32} (hd : decode cc pc = .ok (.iload_n i, 1)) (h : ls[(i : Nat)]? = some (some (.int x))) (k : JW l cl Ns Ts own cc nL ret R (pc + 1) ls (.int x :: st) ws Q) : JW l cl Ns Ts own cc nL ret R pc ls st ws Q := by
  intro p e s m args below meth c H locs D cA ad A lsA X
  obtain ⟨hx, hb, hr, hml, hlk, hown, hts, hN, hK, hP, hD, hS, hl⟩ := id X
  exact lv_iload_n hx hb hd rfl (jl_at hl h rfl) (k p e s m args below meth c H locs D cA ad A lsA X)
theorem J_iload {i : Nat} {x : Int32} (hd : decode cc pc = .ok (.iload i, 2)) (h : ls[i]? = some (some (.int x))) (k : JW l cl Ns Ts own cc nL ret R (pc + 2) ls (.int x :: st) ws Q) : JW l cl Ns Ts own cc nL ret R pc ls st ws Q := by
  intro p e s m args below meth c H locs D cA ad A lsA X
  obtain ⟨hx, hb, hr, hml, hlk, hown, hts, hN, hK, hP, hD, hS, hl⟩ := id X
  exact lv_iload hx hb hd (jl_at hl h rfl) (k p e s m args below meth c H locs D cA ad A lsA X)
theorem J_aload_n {i : Fin 4} {x : Nat} (hd : decode cc pc = .ok (.aload_n i, 1)) (h : ls[(i : Nat)]? = some (some (.ref x))) (k : JW l cl Ns Ts own cc nL ret R (pc + 1) ls (.ref x :: st) ws Q) : JW l cl Ns Ts own cc nL ret R pc ls st ws Q := by
  intro p e s m args below meth c H locs D cA ad A lsA X
  obtain ⟨hx, hb, hr, hml, hlk, hown, hts, hN, hK, hP, hD, hS, hl⟩ := id X
  exact lv_aload_n hx hb hd rfl (jl_at hl h rfl) (k p e s m args below meth c H locs D cA ad A lsA X)
theorem J_aload {i : Nat} {x : Nat} (hd : decode cc pc = .ok (.aload i, 2)) (h : ls[i]? = some (some (.ref x))) (k : JW l cl Ns Ts own cc nL ret R (pc + 2) ls (.ref x :: st) ws Q) : JW l cl Ns Ts own cc nL ret R pc ls st ws Q := by
  intro p e s m args below meth c H locs D cA ad A lsA X
  obtain ⟨hx, hb, hr, hml, hlk, hown, hts, hN, hK, hP, hD, hS, hl⟩ := id X
  exact lv_aload hx hb hd (jl_at hl h rfl) (k p e s m args below meth c H locs D cA ad A lsA X)
theorem J_istore_n {i : Fin 4} {x : Int32} (hd : decode cc pc = .ok (.istore_n i, 1)) (hn : (i : Nat) < nL) (k : JW l cl Ns Ts own cc nL ret R (pc + 1) (ls.set (i : Nat) (some (.int x))) st ws Q) : JW l cl Ns Ts own cc nL ret R pc ls (.int x :: st) ws Q := by
  intro p e s m args below meth c H locs D cA ad A lsA X
  obtain ⟨hx, hb, hr, hml, hlk, hown, hts, hN, hK, hP, hD, hS, hl⟩ := id X
  exact lv_istore_n hx hb hd rfl hl hn rfl (fun ls' hl' => k p e s m args below meth c H locs D cA ad A ls' ⟨hx, hb, hr, hml, hlk, hown, hts, hN, hK, hP, hD, hS, jl_store (v := .int x) hl'⟩)
theorem J_istore {i : Nat} {x : Int32} (hd : decode cc pc = .ok (.istore i, 2)) (hn : i < nL) (k : JW l cl Ns Ts own cc nL ret R (pc + 2) (ls.set i (some (.int x))) st ws Q) : JW l cl Ns Ts own cc nL ret R pc ls (.int x :: st) ws Q := by
  intro p e s m args below meth c H locs D cA ad A lsA X
  obtain ⟨hx, hb, hr, hml, hlk, hown, hts, hN, hK, hP, hD, hS, hl⟩ := id X
  exact lv_istore hx hb hd hl hn rfl (fun ls' hl' => k p e s m args below meth c H locs D cA ad A ls' ⟨hx, hb, hr, hml, hlk, hown, hts, hN, hK, hP, hD, hS, jl_store (v := .int x) hl'⟩)
theorem J_astore_n {i : Fin 4} {x : Nat} (hd : decode cc pc = .ok (.astore_n i, 1)) (hn : (i : Nat) < nL) (k : JW l cl Ns Ts own cc nL ret R (pc + 1) (ls.set (i : Nat) (some (.ref x))) st ws Q) : JW l cl Ns Ts own cc nL ret R pc ls (.ref x :: st) ws Q := by
  intro p e s m args below meth c H locs D cA ad A lsA X
  obtain ⟨hx, hb, hr, hml, hlk, hown, hts, hN, hK, hP, hD, hS, hl⟩ := id X
  exact lv_astore_n hx hb hd rfl hl hn rfl (fun ls' hl' => k p e s m args below meth c H locs D cA ad A ls' ⟨hx, hb, hr, hml, hlk, hown, hts, hN, hK, hP, hD, hS, jl_store (v := .ref x) hl'⟩)
theorem J_astore {i : Nat} {x : Nat} (hd : decode cc pc = .ok (.astore i, 2)) (hn : i < nL) (k : JW l cl Ns Ts own cc nL ret R (pc + 2) (ls.set i (some (.ref x))) st ws Q) : JW l cl Ns Ts own cc nL ret R pc ls (.ref x :: st) ws Q := by
  intro p e s m args below meth c H locs D cA ad A lsA X
  obtain ⟨hx, hb, hr, hml, hlk, hown, hts, hN, hK, hP, hD, hS, hl⟩ := id X
  exact lv_astore hx hb hd hl hn rfl (fun ls' hl' => k p e s m args below meth c H locs D cA ad A ls' ⟨hx, hb, hr, hml, hlk, hown, hts, hN, hK, hP, hD, hS, jl_store (v := .ref x) hl'⟩)
theorem J_iinc {i : Nat} {n : Int} {x v : Int32} (hd : decode cc pc = .ok (.iinc i n, 3)) (h : ls[i]? = some (some (.int x))) (hv : x + Int32.ofInt n = v) (hn : i < nL) (k : JW l cl Ns Ts own cc nL ret R (pc + 3) (ls.set i (some (.int v))) st ws Q) : JW l cl Ns Ts own cc nL ret R pc ls st ws Q := by
  intro p e s m args below meth c H locs D cA ad A lsA X
  obtain ⟨hx, hb, hr, hml, hlk, hown, hts, hN, hK, hP, hD, hS, hl⟩ := id X
  obtain ⟨j, hj⟩ := List.getElem?_of_mem (jl_mem.mpr ⟨i, .int x, h, rfl, rfl⟩ : (0 + i, jv ad (.int x)) ∈ jl ad 0 ls)
  rw [Nat.zero_add] at hj
  exact lv_iinc hx hb hd hl (k := j) hj hv hn rfl (fun ls' hl' => k p e s m args below meth c H locs D cA ad A ls' ⟨hx, hb, hr, hml, hlk, hown, hts, hN, hK, hP, hD, hS, jl_store (v := .int v) hl'⟩)
theorem J_iadd {x y : Int32} (hd : decode cc pc = .ok (.iadd, 1))  (k : JW l cl Ns Ts own cc nL ret R (pc + 1) ls (.int (x + y) :: st) ws Q) : JW l cl Ns Ts own cc nL ret R pc ls (.int y :: .int x :: st) ws Q := by
  intro p e s m args below meth c H locs D cA ad A lsA X
  obtain ⟨hx, hb, hr, hml, hlk, hown, hts, hN, hK, hP, hD, hS, hl⟩ := id X
  exact lv_iadd hx hb hd (k p e s m args below meth c H locs D cA ad A lsA X)
theorem J_isub {x y : Int32} (hd : decode cc pc = .ok (.isub, 1))  (k : JW l cl Ns Ts own cc nL ret R (pc + 1) ls (.int (x - y) :: st) ws Q) : JW l cl Ns Ts own cc nL ret R pc ls (.int y :: .int x :: st) ws Q := by
  intro p e s m args below meth c H locs D cA ad A lsA X
  obtain ⟨hx, hb, hr, hml, hlk, hown, hts, hN, hK, hP, hD, hS, hl⟩ := id X
  exact lv_isub hx hb hd (k p e s m args below meth c H locs D cA ad A lsA X)
theorem J_imul {x y : Int32} (hd : decode cc pc = .ok (.imul, 1))  (k : JW l cl Ns Ts own cc nL ret R (pc + 1) ls (.int (x * y) :: st) ws Q) : JW l cl Ns Ts own cc nL ret R pc ls (.int y :: .int x :: st) ws Q := by
  intro p e s m args below meth c H locs D cA ad A lsA X
  obtain ⟨hx, hb, hr, hml, hlk, hown, hts, hN, hK, hP, hD, hS, hl⟩ := id X
  exact lv_imul hx hb hd (k p e s m args below meth c H locs D cA ad A lsA X)
theorem J_iand {x y : Int32} (hd : decode cc pc = .ok (.iand, 1))  (k : JW l cl Ns Ts own cc nL ret R (pc + 1) ls (.int (x &&& y) :: st) ws Q) : JW l cl Ns Ts own cc nL ret R pc ls (.int y :: .int x :: st) ws Q := by
  intro p e s m args below meth c H locs D cA ad A lsA X
  obtain ⟨hx, hb, hr, hml, hlk, hown, hts, hN, hK, hP, hD, hS, hl⟩ := id X
  exact lv_iand hx hb hd (k p e s m args below meth c H locs D cA ad A lsA X)
theorem J_ior {x y : Int32} (hd : decode cc pc = .ok (.ior, 1))  (k : JW l cl Ns Ts own cc nL ret R (pc + 1) ls (.int (x ||| y) :: st) ws Q) : JW l cl Ns Ts own cc nL ret R pc ls (.int y :: .int x :: st) ws Q := by
  intro p e s m args below meth c H locs D cA ad A lsA X
  obtain ⟨hx, hb, hr, hml, hlk, hown, hts, hN, hK, hP, hD, hS, hl⟩ := id X
  exact lv_ior hx hb hd (k p e s m args below meth c H locs D cA ad A lsA X)
theorem J_ixor {x y : Int32} (hd : decode cc pc = .ok (.ixor, 1))  (k : JW l cl Ns Ts own cc nL ret R (pc + 1) ls (.int (x ^^^ y) :: st) ws Q) : JW l cl Ns Ts own cc nL ret R pc ls (.int y :: .int x :: st) ws Q := by
  intro p e s m args below meth c H locs D cA ad A lsA X
  obtain ⟨hx, hb, hr, hml, hlk, hown, hts, hN, hK, hP, hD, hS, hl⟩ := id X
  exact lv_ixor hx hb hd (k p e s m args below meth c H locs D cA ad A lsA X)
theorem J_ishl {x y : Int32} (hd : decode cc pc = .ok (.ishl, 1))  (k : JW l cl Ns Ts own cc nL ret R (pc + 1) ls (.int (x <<< (y &&& 31)) :: st) ws Q) : JW l cl Ns Ts own cc nL ret R pc ls (.int y :: .int x :: st) ws Q := by
  intro p e s m args below meth c H locs D cA ad A lsA X
  obtain ⟨hx, hb, hr, hml, hlk, hown, hts, hN, hK, hP, hD, hS, hl⟩ := id X
  exact lv_ishl hx hb hd (k p e s m args below meth c H locs D cA ad A lsA X)
theorem J_ishr {x y : Int32} (hd : decode cc pc = .ok (.ishr, 1))  (k : JW l cl Ns Ts own cc nL ret R (pc + 1) ls (.int (x >>> (y &&& 31)) :: st) ws Q) : JW l cl Ns Ts own cc nL ret R pc ls (.int y :: .int x :: st) ws Q := by
  intro p e s m args below meth c H locs D cA ad A lsA X
  obtain ⟨hx, hb, hr, hml, hlk, hown, hts, hN, hK, hP, hD, hS, hl⟩ := id X
  exact lv_ishr hx hb hd (k p e s m args below meth c H locs D cA ad A lsA X)
theorem J_iushr {x y : Int32} (hd : decode cc pc = .ok (.iushr, 1))  (k : JW l cl Ns Ts own cc nL ret R (pc + 1) ls (.int ((x.toUInt32 >>> (y.toUInt32 &&& Int32.toUInt32 31)).toInt32) :: st) ws Q) : JW l cl Ns Ts own cc nL ret R pc ls (.int y :: .int x :: st) ws Q := by
  intro p e s m args below meth c H locs D cA ad A lsA X
  obtain ⟨hx, hb, hr, hml, hlk, hown, hts, hN, hK, hP, hD, hS, hl⟩ := id X
  exact lv_iushr hx hb hd rfl (k p e s m args below meth c H locs D cA ad A lsA X)
theorem J_ineg {x : Int32} (hd : decode cc pc = .ok (.ineg, 1))  (k : JW l cl Ns Ts own cc nL ret R (pc + 1) ls (.int (-x) :: st) ws Q) : JW l cl Ns Ts own cc nL ret R pc ls (.int x :: st) ws Q := by
  intro p e s m args below meth c H locs D cA ad A lsA X
  obtain ⟨hx, hb, hr, hml, hlk, hown, hts, hN, hK, hP, hD, hS, hl⟩ := id X
  exact lv_ineg hx hb hd (k p e s m args below meth c H locs D cA ad A lsA X)
theorem J_idiv {x y : Int32} (hd : decode cc pc = .ok (.idiv, 1)) (hne : ¬ y = 0) (k : JW l cl Ns Ts own cc nL ret R (pc + 1) ls (.int (x / y) :: st) ws Q) : JW l cl Ns Ts own cc nL ret R pc ls (.int y :: .int x :: st) ws Q := by
  intro p e s m args below meth c H locs D cA ad A lsA X
  obtain ⟨hx, hb, hr, hml, hlk, hown, hts, hN, hK, hP, hD, hS, hl⟩ := id X
  exact lv_idiv hx hb hd hne (k p e s m args below meth c H locs D cA ad A lsA X)
theorem J_irem {x y : Int32} (hd : decode cc pc = .ok (.irem, 1)) (hne : ¬ y = 0) (k : JW l cl Ns Ts own cc nL ret R (pc + 1) ls (.int (x - x / y * y) :: st) ws Q) : JW l cl Ns Ts own cc nL ret R pc ls (.int y :: .int x :: st) ws Q := by
  intro p e s m args below meth c H locs D cA ad A lsA X
  obtain ⟨hx, hb, hr, hml, hlk, hown, hts, hN, hK, hP, hD, hS, hl⟩ := id X
  exact lv_irem hx hb hd hne (k p e s m args below meth c H locs D cA ad A lsA X)
theorem J_dup {v : Value} (hd : decode cc pc = .ok (.dup, 1)) (hv : v.category = 1) (k : JW l cl Ns Ts own cc nL ret R (pc + 1) ls (v :: v :: st) ws Q) : JW l cl Ns Ts own cc nL ret R pc ls (v :: st) ws Q := by
  intro p e s m args below meth c H locs D cA ad A lsA X
  obtain ⟨hx, hb, hr, hml, hlk, hown, hts, hN, hK, hP, hD, hS, hl⟩ := id X
  exact lv_dup hx hb hd (by rw [jv_cat]; exact hv) (k p e s m args below meth c H locs D cA ad A lsA X)
theorem J_pop {v : Value} (hd : decode cc pc = .ok (.pop, 1)) (hv : v.category = 1) (k : JW l cl Ns Ts own cc nL ret R (pc + 1) ls st ws Q) : JW l cl Ns Ts own cc nL ret R pc ls (v :: st) ws Q := by
  intro p e s m args below meth c H locs D cA ad A lsA X
  obtain ⟨hx, hb, hr, hml, hlk, hown, hts, hN, hK, hP, hD, hS, hl⟩ := id X
  exact lv_pop hx hb hd (by rw [jv_cat]; exact hv) (k p e s m args below meth c H locs D cA ad A lsA X)
theorem J_dup_x1 {v u : Value} (hd : decode cc pc = .ok (.dup_x1, 1)) (hv : v.category = 1) (hu : u.category = 1) (k : JW l cl Ns Ts own cc nL ret R (pc + 1) ls (v :: u :: v :: st) ws Q) : JW l cl Ns Ts own cc nL ret R pc ls (v :: u :: st) ws Q := by
  intro p e s m args below meth c H locs D cA ad A lsA X
  obtain ⟨hx, hb, hr, hml, hlk, hown, hts, hN, hK, hP, hD, hS, hl⟩ := id X
  exact lv_dup_x1 hx hb hd (by rw [jv_cat]; exact hv) (by rw [jv_cat]; exact hu) (k p e s m args below meth c H locs D cA ad A lsA X)
theorem J_dup_x2 {v u t : Value} (hd : decode cc pc = .ok (.dup_x2, 1)) (hv : v.category = 1) (hu : u.category = 1) (ht : t.category = 1) (k : JW l cl Ns Ts own cc nL ret R (pc + 1) ls (v :: u :: t :: v :: st) ws Q) : JW l cl Ns Ts own cc nL ret R pc ls (v :: u :: t :: st) ws Q := by
  intro p e s m args below meth c H locs D cA ad A lsA X
  obtain ⟨hx, hb, hr, hml, hlk, hown, hts, hN, hK, hP, hD, hS, hl⟩ := id X
  exact lv_dup_x2 hx hb hd (by rw [jv_cat]; exact hv) (by rw [jv_cat]; exact hu) (by rw [jv_cat]; exact ht) (k p e s m args below meth c H locs D cA ad A lsA X)
theorem J_dup2 {v u : Value} (hd : decode cc pc = .ok (.dup2, 1)) (hv : v.category = 1) (hu : u.category = 1) (k : JW l cl Ns Ts own cc nL ret R (pc + 1) ls (v :: u :: v :: u :: st) ws Q) : JW l cl Ns Ts own cc nL ret R pc ls (v :: u :: st) ws Q := by
  intro p e s m args below meth c H locs D cA ad A lsA X
  obtain ⟨hx, hb, hr, hml, hlk, hown, hts, hN, hK, hP, hD, hS, hl⟩ := id X
  exact lv_dup2_11 hx hb hd (by rw [jv_cat]; exact hv) (by rw [jv_cat]; exact hu) (k p e s m args below meth c H locs D cA ad A lsA X)
theorem J_if_eq {x : Int32} {off : Int} {tgt : Nat} (hd : decode cc pc = .ok (.ifCond .eq off, 3)) (ht : (pc : Int) + off = (tgt : Int)) (kt : x = 0 → JW l cl Ns Ts own cc nL ret R tgt ls st ws Q) (kf : ¬ x = 0 → JW l cl Ns Ts own cc nL ret R (pc + 3) ls st ws Q) : JW l cl Ns Ts own cc nL ret R pc ls (.int x :: st) ws Q := by
  intro p e s m args below meth c H locs D cA ad A lsA X
  obtain ⟨hx, hb, hr, hml, hlk, hown, hts, hN, hK, hP, hD, hS, hl⟩ := id X
  exact lv_if_eq hx hb hd ht (fun h => kt h p e s m args below meth c H locs D cA ad A lsA X) (fun h => kf h p e s m args below meth c H locs D cA ad A lsA X)
theorem J_icmp_eq {x y : Int32} {off : Int} {tgt : Nat} (hd : decode cc pc = .ok (.if_icmp .eq off, 3)) (ht : (pc : Int) + off = (tgt : Int)) (kt : x = y → JW l cl Ns Ts own cc nL ret R tgt ls st ws Q) (kf : ¬ x = y → JW l cl Ns Ts own cc nL ret R (pc + 3) ls st ws Q) : JW l cl Ns Ts own cc nL ret R pc ls (.int y :: .int x :: st) ws Q := by
  intro p e s m args below meth c H locs D cA ad A lsA X
  obtain ⟨hx, hb, hr, hml, hlk, hown, hts, hN, hK, hP, hD, hS, hl⟩ := id X
  exact lv_icmp_eq hx hb hd ht (fun h => kt h p e s m args below meth c H locs D cA ad A lsA X) (fun h => kf h p e s m args below meth c H locs D cA ad A lsA X)
theorem J_if_ne {x : Int32} {off : Int} {tgt : Nat} (hd : decode cc pc = .ok (.ifCond .ne off, 3)) (ht : (pc : Int) + off = (tgt : Int)) (kt : ¬ x = 0 → JW l cl Ns Ts own cc nL ret R tgt ls st ws Q) (kf : x = 0 → JW l cl Ns Ts own cc nL ret R (pc + 3) ls st ws Q) : JW l cl Ns Ts own cc nL ret R pc ls (.int x :: st) ws Q := by
  intro p e s m args below meth c H locs D cA ad A lsA X
  obtain ⟨hx, hb, hr, hml, hlk, hown, hts, hN, hK, hP, hD, hS, hl⟩ := id X
  exact lv_if_ne hx hb hd ht (fun h => kt h p e s m args below meth c H locs D cA ad A lsA X) (fun h => kf h p e s m args below meth c H locs D cA ad A lsA X)
theorem J_icmp_ne {x y : Int32} {off : Int} {tgt : Nat} (hd : decode cc pc = .ok (.if_icmp .ne off, 3)) (ht : (pc : Int) + off = (tgt : Int)) (kt : ¬ x = y → JW l cl Ns Ts own cc nL ret R tgt ls st ws Q) (kf : x = y → JW l cl Ns Ts own cc nL ret R (pc + 3) ls st ws Q) : JW l cl Ns Ts own cc nL ret R pc ls (.int y :: .int x :: st) ws Q := by
  intro p e s m args below meth c H locs D cA ad A lsA X
  obtain ⟨hx, hb, hr, hml, hlk, hown, hts, hN, hK, hP, hD, hS, hl⟩ := id X
  exact lv_icmp_ne hx hb hd ht (fun h => kt h p e s m args below meth c H locs D cA ad A lsA X) (fun h => kf h p e s m args below meth c H locs D cA ad A lsA X)
theorem J_if_lt {x : Int32} {off : Int} {tgt : Nat} (hd : decode cc pc = .ok (.ifCond .lt off, 3)) (ht : (pc : Int) + off = (tgt : Int)) (kt : x < 0 → JW l cl Ns Ts own cc nL ret R tgt ls st ws Q) (kf : ¬ x < 0 → JW l cl Ns Ts own cc nL ret R (pc + 3) ls st ws Q) : JW l cl Ns Ts own cc nL ret R pc ls (.int x :: st) ws Q := by
  intro p e s m args below meth c H locs D cA ad A lsA X
  obtain ⟨hx, hb, hr, hml, hlk, hown, hts, hN, hK, hP, hD, hS, hl⟩ := id X
  exact lv_if_lt hx hb hd ht (fun h => kt h p e s m args below meth c H locs D cA ad A lsA X) (fun h => kf h p e s m args below meth c H locs D cA ad A lsA X)
theorem J_icmp_lt {x y : Int32} {off : Int} {tgt : Nat} (hd : decode cc pc = .ok (.if_icmp .lt off, 3)) (ht : (pc : Int) + off = (tgt : Int)) (kt : x < y → JW l cl Ns Ts own cc nL ret R tgt ls st ws Q) (kf : ¬ x < y → JW l cl Ns Ts own cc nL ret R (pc + 3) ls st ws Q) : JW l cl Ns Ts own cc nL ret R pc ls (.int y :: .int x :: st) ws Q := by
  intro p e s m args below meth c H locs D cA ad A lsA X
  obtain ⟨hx, hb, hr, hml, hlk, hown, hts, hN, hK, hP, hD, hS, hl⟩ := id X
  exact lv_icmp_lt hx hb hd ht (fun h => kt h p e s m args below meth c H locs D cA ad A lsA X) (fun h => kf h p e s m args below meth c H locs D cA ad A lsA X)
theorem J_if_ge {x : Int32} {off : Int} {tgt : Nat} (hd : decode cc pc = .ok (.ifCond .ge off, 3)) (ht : (pc : Int) + off = (tgt : Int)) (kt : 0 ≤ x → JW l cl Ns Ts own cc nL ret R tgt ls st ws Q) (kf : ¬ 0 ≤ x → JW l cl Ns Ts own cc nL ret R (pc + 3) ls st ws Q) : JW l cl Ns Ts own cc nL ret R pc ls (.int x :: st) ws Q := by
  intro p e s m args below meth c H locs D cA ad A lsA X
  obtain ⟨hx, hb, hr, hml, hlk, hown, hts, hN, hK, hP, hD, hS, hl⟩ := id X
  exact lv_if_ge hx hb hd ht (fun h => kt h p e s m args below meth c H locs D cA ad A lsA X) (fun h => kf h p e s m args below meth c H locs D cA ad A lsA X)
theorem J_icmp_ge {x y : Int32} {off : Int} {tgt : Nat} (hd : decode cc pc = .ok (.if_icmp .ge off, 3)) (ht : (pc : Int) + off = (tgt : Int)) (kt : y ≤ x → JW l cl Ns Ts own cc nL ret R tgt ls st ws Q) (kf : ¬ y ≤ x → JW l cl Ns Ts own cc nL ret R (pc + 3) ls st ws Q) : JW l cl Ns Ts own cc nL ret R pc ls (.int y :: .int x :: st) ws Q := by
  intro p e s m args below meth c H locs D cA ad A lsA X
  obtain ⟨hx, hb, hr, hml, hlk, hown, hts, hN, hK, hP, hD, hS, hl⟩ := id X
  exact lv_icmp_ge hx hb hd ht (fun h => kt h p e s m args below meth c H locs D cA ad A lsA X) (fun h => kf h p e s m args below meth c H locs D cA ad A lsA X)
theorem J_if_gt {x : Int32} {off : Int} {tgt : Nat} (hd : decode cc pc = .ok (.ifCond .gt off, 3)) (ht : (pc : Int) + off = (tgt : Int)) (kt : 0 < x → JW l cl Ns Ts own cc nL ret R tgt ls st ws Q) (kf : ¬ 0 < x → JW l cl Ns Ts own cc nL ret R (pc + 3) ls st ws Q) : JW l cl Ns Ts own cc nL ret R pc ls (.int x :: st) ws Q := by
  intro p e s m args below meth c H locs D cA ad A lsA X
  obtain ⟨hx, hb, hr, hml, hlk, hown, hts, hN, hK, hP, hD, hS, hl⟩ := id X
  exact lv_if_gt hx hb hd ht (fun h => kt h p e s m args below meth c H locs D cA ad A lsA X) (fun h => kf h p e s m args below meth c H locs D cA ad A lsA X)
theorem J_icmp_gt {x y : Int32} {off : Int} {tgt : Nat} (hd : decode cc pc = .ok (.if_icmp .gt off, 3)) (ht : (pc : Int) + off = (tgt : Int)) (kt : y < x → JW l cl Ns Ts own cc nL ret R tgt ls st ws Q) (kf : ¬ y < x → JW l cl Ns Ts own cc nL ret R (pc + 3) ls st ws Q) : JW l cl Ns Ts own cc nL ret R pc ls (.int y :: .int x :: st) ws Q := by
  intro p e s m args below meth c H locs D cA ad A lsA X
  obtain ⟨hx, hb, hr, hml, hlk, hown, hts, hN, hK, hP, hD, hS, hl⟩ := id X
  exact lv_icmp_gt hx hb hd ht (fun h => kt h p e s m args below meth c H locs D cA ad A lsA X) (fun h => kf h p e s m args below meth c H locs D cA ad A lsA X)
theorem J_if_le {x : Int32} {off : Int} {tgt : Nat} (hd : decode cc pc = .ok (.ifCond .le off, 3)) (ht : (pc : Int) + off = (tgt : Int)) (kt : x ≤ 0 → JW l cl Ns Ts own cc nL ret R tgt ls st ws Q) (kf : ¬ x ≤ 0 → JW l cl Ns Ts own cc nL ret R (pc + 3) ls st ws Q) : JW l cl Ns Ts own cc nL ret R pc ls (.int x :: st) ws Q := by
  intro p e s m args below meth c H locs D cA ad A lsA X
  obtain ⟨hx, hb, hr, hml, hlk, hown, hts, hN, hK, hP, hD, hS, hl⟩ := id X
  exact lv_if_le hx hb hd ht (fun h => kt h p e s m args below meth c H locs D cA ad A lsA X) (fun h => kf h p e s m args below meth c H locs D cA ad A lsA X)
theorem J_icmp_le {x y : Int32} {off : Int} {tgt : Nat} (hd : decode cc pc = .ok (.if_icmp .le off, 3)) (ht : (pc : Int) + off = (tgt : Int)) (kt : x ≤ y → JW l cl Ns Ts own cc nL ret R tgt ls st ws Q) (kf : ¬ x ≤ y → JW l cl Ns Ts own cc nL ret R (pc + 3) ls st ws Q) : JW l cl Ns Ts own cc nL ret R pc ls (.int y :: .int x :: st) ws Q := by
  intro p e s m args below meth c H locs D cA ad A lsA X
  obtain ⟨hx, hb, hr, hml, hlk, hown, hts, hN, hK, hP, hD, hS, hl⟩ := id X
  exact lv_icmp_le hx hb hd ht (fun h => kt h p e s m args below meth c H locs D cA ad A lsA X) (fun h => kf h p e s m args below meth c H locs D cA ad A lsA X)
theorem J_goto {off : Int} {tgt : Nat} (hd : decode cc pc = .ok (.goto off, 3)) (ht : (pc : Int) + off = (tgt : Int)) (k : JW l cl Ns Ts own cc nL ret R tgt ls st ws Q) : JW l cl Ns Ts own cc nL ret R pc ls st ws Q := by
  intro p e s m args below meth c H locs D cA ad A lsA X
  obtain ⟨hx, hb, hr, hml, hlk, hown, hts, hN, hK, hP, hD, hS, hl⟩ := id X
  exact lv_goto hx hb hd ht (k p e s m args below meth c H locs D cA ad A lsA X)
theorem J_tableOut {dflt lo hi : Int} {offs : Array Int} {len : Nat} {x : Int32} {tgt : Nat} (hd : decode cc pc = .ok (.tableswitch dflt lo hi offs, len)) (h : x.toInt < lo ∨ hi < x.toInt) (ht : (pc : Int) + dflt = (tgt : Int)) (k : JW l cl Ns Ts own cc nL ret R tgt ls st ws Q) : JW l cl Ns Ts own cc nL ret R pc ls (.int x :: st) ws Q := by
  intro p e s m args below meth c H locs D cA ad A lsA X
  obtain ⟨hx, hb, hr, hml, hlk, hown, hts, hN, hK, hP, hD, hS, hl⟩ := id X
  exact lv_tableOut hx hb hd h ht (k p e s m args below meth c H locs D cA ad A lsA X)
theorem J_tableIn {dflt lo hi : Int} {offs : Array Int} {len : Nat} {x : Int32} {off : Int} {tgt : Nat} (hd : decode cc pc = .ok (.tableswitch dflt lo hi offs, len)) (h1 : ¬ x.toInt < lo) (h2 : ¬ hi < x.toInt) (ho : offs[(x.toInt - lo).toNat]? = some off) (ht : (pc : Int) + off = (tgt : Int)) (k : JW l cl Ns Ts own cc nL ret R tgt ls st ws Q) : JW l cl Ns Ts own cc nL ret R pc ls (.int x :: st) ws Q := by
  intro p e s m args below meth c H locs D cA ad A lsA X
  obtain ⟨hx, hb, hr, hml, hlk, hown, hts, hN, hK, hP, hD, hS, hl⟩ := id X
  exact lv_tableIn hx hb hd h1 h2 ho ht (k p e s m args below meth c H locs D cA ad A lsA X)
theorem J_iret {v : Int32} {ty : FieldType} (hd : decode cc pc = .ok (.ireturn, 1)) (hr0 : ret = some ty) (hn : narrow ty (.int v) = .int v) (hq : Q (some (.int v)) ws) : JW l cl Ns Ts own cc nL ret R pc ls [.int v] ws Q := by
  intro p e s m args below meth c H locs D cA ad A lsA X
  obtain ⟨hx, hb, hr, hml, hlk, hown, hts, hN, hK, hP, hD, hS, hl⟩ := id X
  exact W.zret hx hb (hr.trans hr0) hn (fun t ht hW => ⟨⟨some (.int v), ws, rfl, hq, rfl, by rw [ht]; exact hP, va_K.moved hW.alike hK, hD⟩, hS.F ht⟩) hS.2.2 hd hlk
theorem J_vret (hd : decode cc pc = .ok (.return_, 1)) (hr0 : ret = none) (hq : Q none ws) : JW l cl Ns Ts own cc nL ret R pc ls [] ws Q := by
  intro p e s m args below meth c H locs D cA ad A lsA X
  obtain ⟨hx, hb, hr, hml, hlk, hown, hts, hN, hK, hP, hD, hS, hl⟩ := id X
  exact W.vret hx hb (hr.trans hr0) (fun t ht hW => ⟨⟨none, ws, rfl, hq, rfl, by rw [ht]; exact hP, va_K.moved hW.alike hK, hD⟩, hS.F ht⟩) hS.2.2 hd hlk
theorem J_get {index k0 ci j N : Nat} {fs : List Value} {v : Value} {C : String} {T : u_T} (hd : decode cc pc = .ok (.getfield index, 3)) (he : ws[k0]? = some (.inr (ci, fs))) (hc : cl[ci]? = some (C, T, N)) (hin : ∀ w ∈ u_ws C T N, w ∈ Ts) (hj : j < N) (hlk0 : Cond.fieldLink own index (T j).1 (T j).2.1 (T j).2.2.1 ∈ Ts) (hv : fs[j]? = some v) (k : JW l cl Ns Ts own cc nL ret R (pc + 3) ls (v :: st) ws Q) : JW l cl Ns Ts own cc nL ret R pc ls (.ref k0 :: st) ws Q := by
  intro p e s m args below meth c H locs D cA ad A lsA X
  obtain ⟨hx, hb, hr, hml, hlk, hown, hts, hN, hK, hP, hD, hS, hl⟩ := id X
  exact va_get hx hb hts hin hown hK hP _ (jw_at he) hc j hj (hts _ hlk0) (fun _ h => h) (v := jv ad v) (by simp [hv]) hd (k p e s m args below meth c H locs D cA ad A lsA X)
theorem J_getN {index k0 ci j N : Nat} {fs : List Value} {v : Value} {C host : String} {T : u_T} (hd : decode cc pc = .ok (.getfield index, 3)) (he : ws[k0]? = some (.inr (ci, fs))) (hc : cl[ci]? = some (C, T, N)) (hin : ∀ w ∈ u_ws C T N, w ∈ Ts) (hj : j < N) (hlk0 : Cond.fieldLinkNest own index (T j).1 (T j).2.1 (T j).2.2.1 host ∈ Ts) (hv : fs[j]? = some v) (k : JW l cl Ns Ts own cc nL ret R (pc + 3) ls (v :: st) ws Q) : JW l cl Ns Ts own cc nL ret R pc ls (.ref k0 :: st) ws Q := by
  intro p e s m args below meth c H locs D cA ad A lsA X
  obtain ⟨hx, hb, hr, hml, hlk, hown, hts, hN, hK, hP, hD, hS, hl⟩ := id X
  exact va_getN hx hb hts hin hown hK hP _ (jw_at he) hc j hj (hts _ hlk0) (fun _ h => h) (v := jv ad v) (by simp [hv]) hd (k p e s m args below meth c H locs D cA ad A lsA X)
theorem J_put {index k0 ci j N : Nat} {fs : List Value} {x : Int32} {C : String} {T : u_T} {ty : FieldType} (hd : decode cc pc = .ok (.putfield index, 3)) (he : ws[k0]? = some (.inr (ci, fs))) (hc : cl[ci]? = some (C, T, N)) (hin : ∀ w ∈ u_ws C T N, w ∈ Ts) (ty0 : Nat → FieldType) (hty : ∀ i, i < N → parseFieldDescriptor (T i).2.2.1 = some (ty0 i)) (hnm : ∀ a, a < N → ∀ b, b < N → a ≠ b → (T a).2.1 ≠ (T b).2.1) (hj : j < N) (hlk0 : Cond.fieldLink own index (T j).1 (T j).2.1 (T j).2.2.1 ∈ Ts) (hfin : (T j).2.2.2 = false) (hpd : parseFieldDescriptor (T j).2.2.1 = some ty) (hn : narrow ty (.int x) = .int x) (hfit : fits ty (.int x) = true) (hl0 : j < fs.length)
    (k : JW l cl Ns Ts own cc nL ret R (pc + 3) ls st (ws.set k0 (.inr (ci, fs.set j (.int x)))) Q) : JW l cl Ns Ts own cc nL ret R pc ls (.int x :: .ref k0 :: st) ws Q := by
  intro p e s m args below meth c H locs D cA ad A lsA X
  obtain ⟨hx, hb, hr, hml, hlk, hown, hts, hN, hK, hP, hD, hS, hl⟩ := id X
  have e1 : je cA ad (.inr (ci, fs.set j (.int x))) = .inr (ci, (fs.map (jv ad)).set j (.int x)) := by
    show Sum.inr (ci, (fs.set j (.int x)).map (jv ad)) = _
    rw [List.map_set]; rfl
  refine va_put hx hb hts hin ty0 hty hnm hown hK hP hD hS k0 (jw_at he) hc j hj (hts _ hlk0) (fun _ h => h) hfin (v := .int x) hpd hn hfit (by simp [hl0]) hd (fun H1 locs1 hP1 hD1 hS1 => ?_)
  rw [← e1, jw_set] at hP1 hD1
  have := k p e s m args below meth c H1 locs1 D cA ad A lsA ⟨hx, hb, hr, hml, hlk, hown, hts, hN, hK, hP1, hD1, hS1, hl⟩
  rw [List.length_set] at this
  exact this
theorem J_putN {index k0 ci j N : Nat} {fs : List Value} {x : Int32} {C host : String} {T : u_T} {ty : FieldType} (hd : decode cc pc = .ok (.putfield index, 3)) (he : ws[k0]? = some (.inr (ci, fs))) (hc : cl[ci]? = some (C, T, N)) (hin : ∀ w ∈ u_ws C T N, w ∈ Ts) (ty0 : Nat → FieldType) (hty : ∀ i, i < N → parseFieldDescriptor (T i).2.2.1 = some (ty0 i)) (hnm : ∀ a, a < N → ∀ b, b < N → a ≠ b → (T a).2.1 ≠ (T b).2.1) (hj : j < N) (hlk0 : Cond.fieldLinkNest own index (T j).1 (T j).2.1 (T j).2.2.1 host ∈ Ts) (hfin : (T j).2.2.2 = false) (hpd : parseFieldDescriptor (T j).2.2.1 = some ty) (hn : narrow ty (.int x) = .int x) (hfit : fits ty (.int x) = true) (hl0 : j < fs.length)
    (k : JW l cl Ns Ts own cc nL ret R (pc + 3) ls st (ws.set k0 (.inr (ci, fs.set j (.int x)))) Q) : JW l cl Ns Ts own cc nL ret R pc ls (.int x :: .ref k0 :: st) ws Q := by
  intro p e s m args below meth c H locs D cA ad A lsA X
  obtain ⟨hx, hb, hr, hml, hlk, hown, hts, hN, hK, hP, hD, hS, hl⟩ := id X
  have e1 : je cA ad (.inr (ci, fs.set j (.int x))) = .inr (ci, (fs.map (jv ad)).set j (.int x)) := by
    show Sum.inr (ci, (fs.set j (.int x)).map (jv ad)) = _
    rw [List.map_set]; rfl
  refine va_putN hx hb hts hin ty0 hty hnm hown hK hP hD hS k0 (jw_at he) hc j hj (hts _ hlk0) (fun _ h => h) hfin (v := .int x) hpd hn hfit (by simp [hl0]) hd (fun H1 locs1 hP1 hD1 hS1 => ?_)
  rw [← e1, jw_set] at hP1 hD1
  have := k p e s m args below meth c H1 locs1 D cA ad A lsA ⟨hx, hb, hr, hml, hlk, hown, hts, hN, hK, hP1, hD1, hS1, hl⟩
  rw [List.length_set] at this
  exact this
theorem J_iald {k0 n : Nat} {f : Nat → Int32} {i : Int32} (hd : decode cc pc = .ok (.iaload, 1)) (he : ws[k0]? = some (.inl (0, n, f))) (hi : vp_in i n) (k : JW l cl Ns Ts own cc nL ret R (pc + 1) ls (.int (f i.toNatClampNeg) :: st) ws Q) : JW l cl Ns Ts own cc nL ret R pc ls (.int i :: .ref k0 :: st) ws Q := by
  intro p e s m args below meth c H locs D cA ad A lsA X
  obtain ⟨hx, hb, hr, hml, hlk, hown, hts, hN, hK, hP, hD, hS, hl⟩ := id X
  exact va_iald hx hb hK hP _ 0 (jw_at he) rfl hi hd (k p e s m args below meth c H locs D cA ad A lsA X)
theorem J_zald {k0 n : Nat} {f : Nat → Int32} {i : Int32} (hd : decode cc pc = .ok (.baload, 1)) (he : ws[k0]? = some (.inl (1, n, f))) (hi : vp_in i n) (k : JW l cl Ns Ts own cc nL ret R (pc + 1) ls (.int (f i.toNatClampNeg) :: st) ws Q) : JW l cl Ns Ts own cc nL ret R pc ls (.int i :: .ref k0 :: st) ws Q := by
  intro p e s m args below meth c H locs D cA ad A lsA X
  obtain ⟨hx, hb, hr, hml, hlk, hown, hts, hN, hK, hP, hD, hS, hl⟩ := id X
  exact va_zald hx hb hK hP _ 1 (jw_at he) rfl hi hd (k p e s m args below meth c H locs D cA ad A lsA X)
theorem J_iast {k0 n : Nat} {f : Nat → Int32} {i x : Int32} (hd : decode cc pc = .ok (.iastore, 1)) (he : ws[k0]? = some (.inl (0, n, f))) (hi : vp_in i n) (k : JW l cl Ns Ts own cc nL ret R (pc + 1) ls st (ws.set k0 (.inl (0, n, upd f i.toNatClampNeg x))) Q) : JW l cl Ns Ts own cc nL ret R pc ls (.int x :: .int i :: .ref k0 :: st) ws Q := by
  intro p e s m args below meth c H locs D cA ad A lsA X
  obtain ⟨hx, hb, hr, hml, hlk, hown, hts, hN, hK, hP, hD, hS, hl⟩ := id X
  refine va_iast hx hb hK hP hD hS k0 0 (jw_at he) rfl hi hd (fun H1 locs1 hP1 hD1 hS1 => ?_)
  have e1 : je cA ad (.inl (0, n, upd f i.toNatClampNeg x)) = .inl (cA 0, n, .inl (upd f i.toNatClampNeg x)) := rfl
  rw [← e1, jw_set] at hP1 hD1
  have := k p e s m args below meth c H1 locs1 D cA ad A lsA ⟨hx, hb, hr, hml, hlk, hown, hts, hN, hK, hP1, hD1, hS1, hl⟩
  rw [List.length_set] at this
  exact this
theorem J_zast {k0 n : Nat} {f : Nat → Int32} {i x : Int32} (hd : decode cc pc = .ok (.bastore, 1)) (he : ws[k0]? = some (.inl (1, n, f))) (hi : vp_in i n) (k : JW l cl Ns Ts own cc nL ret R (pc + 1) ls st (ws.set k0 (.inl (1, n, upd f i.toNatClampNeg (vp_nar .boolean x)))) Q) : JW l cl Ns Ts own cc nL ret R pc ls (.int x :: .int i :: .ref k0 :: st) ws Q := by
  intro p e s m args below meth c H locs D cA ad A lsA X
  obtain ⟨hx, hb, hr, hml, hlk, hown, hts, hN, hK, hP, hD, hS, hl⟩ := id X
  refine va_zast hx hb hK hP hD hS k0 1 (jw_at he) rfl hi hd (fun H1 locs1 hP1 hD1 hS1 => ?_)
  have e1 : je cA ad (.inl (1, n, upd f i.toNatClampNeg (vp_nar .boolean x))) = .inl (cA 1, n, .inl (upd f i.toNatClampNeg (vp_nar .boolean x))) := rfl
  rw [← e1, jw_set] at hP1 hD1
  have := k p e s m args below meth c H1 locs1 D cA ad A lsA ⟨hx, hb, hr, hml, hlk, hown, hts, hN, hK, hP1, hD1, hS1, hl⟩
  rw [List.length_set] at this
  exact this
theorem J_alen {k0 t n : Nat} {f : Nat → Int32} {v : Int32} (ht : t < 2) (hd : decode cc pc = .ok (.arraylength, 1)) (he : ws[k0]? = some (.inl (t, n, f))) (hv : Int32.ofNat n = v) (k : JW l cl Ns Ts own cc nL ret R (pc + 1) ls (.int v :: st) ws Q) : JW l cl Ns Ts own cc nL ret R pc ls (.ref k0 :: st) ws Q := by
  intro p e s m args below meth c H locs D cA ad A lsA X
  obtain ⟨hx, hb, hr, hml, hlk, hown, hts, hN, hK, hP, hD, hS, hl⟩ := id X
  have hty : ∃ ty, (jT cA)[t]? = some (cA t, ty) := by
    match t, ht with
    | 0, _ => exact ⟨_, rfl⟩
    | 1, _ => exact ⟨_, rfl⟩
  obtain ⟨ty, hty⟩ := hty
  exact va_alen (x := (n, .inl f)) hx hb hK hP _ t (jw_at he) hty hv hd (k p e s m args below meth c H locs D cA ad A lsA X)
theorem J_mmax {index : Nat} {x y : Int32} (hd : decode cc pc = .ok (.invokestatic index, 3)) (h1 : Cond.methodLink own index Lib.Math.max.name ∈ Ts) (h2 : Cond.static Lib.Math.max.name ∈ Ts) (h3 : Cond.initialized "java/lang/Math" ∈ Ts) (h4 : Cond.code Lib.Math.max.name Lib.Math.max.code 2 (some .int) ∈ Ts) (hf : 1 ≤ R.frames) (hlo : (st.map fun v => v.category).sum + 13 ≤ R.locals) (k : JW l cl Ns Ts own cc nL ret R (pc + 3) ls (.int (if x < y then y else x) :: st) ws Q) : JW l cl Ns Ts own cc nL ret R pc ls (.int y :: .int x :: st) ws Q := by
  intro p e s m args below meth c H locs D cA ad A lsA X
  obtain ⟨hx, hb, hr, hml, hlk, hown, hts, hN, hK, hP, hD, hS, hl⟩ := id X
  have e1 : ((st.map (jv ad)).map fun v => v.category).sum = (st.map fun v => v.category).sum := by
    rw [List.map_map]; congr 1; apply List.map_congr_left; intro v _; exact jv_cat ad v
  exact va_mmax hx hb (by rw [hml]; exact hl.1.symm) hown (hts _ h1) (hts _ h2) (hts _ h3) (hts _ h4) hf (by rw [e1]; exact hlo) (Nat.zero_le _) (Nat.zero_le _) hd (k p e s m args below meth c H locs D cA ad A lsA X)
theorem J_mmin {index : Nat} {x y : Int32} (hd : decode cc pc = .ok (.invokestatic index, 3)) (h1 : Cond.methodLink own index Lib.Math.min.name ∈ Ts) (h2 : Cond.static Lib.Math.min.name ∈ Ts) (h3 : Cond.initialized "java/lang/Math" ∈ Ts) (h4 : Cond.code Lib.Math.min.name Lib.Math.min.code 2 (some .int) ∈ Ts) (hf : 1 ≤ R.frames) (hlo : (st.map fun v => v.category).sum + 13 ≤ R.locals) (k : JW l cl Ns Ts own cc nL ret R (pc + 3) ls (.int (if y < x then y else x) :: st) ws Q) : JW l cl Ns Ts own cc nL ret R pc ls (.int y :: .int x :: st) ws Q := by
  intro p e s m args below meth c H locs D cA ad A lsA X
  obtain ⟨hx, hb, hr, hml, hlk, hown, hts, hN, hK, hP, hD, hS, hl⟩ := id X
  have e1 : ((st.map (jv ad)).map fun v => v.category).sum = (st.map fun v => v.category).sum := by
    rw [List.map_map]; congr 1; apply List.map_congr_left; intro v _; exact jv_cat ad v
  exact va_mmin hx hb (by rw [hml]; exact hl.1.symm) hown (hts _ h1) (hts _ h2) (hts _ h3) (hts _ h4) hf (by rw [e1]; exact hlo) (Nat.zero_le _) (Nat.zero_le _) hd (k p e s m args below meth c H locs D cA ad A lsA X)
theorem j_good {y : MethodName} {bytes : ByteArray} {maxLy : Nat} {rety : Option FieldType} {Ts : List Cond} (hcode : Cond.code y bytes maxLy rety ∈ Ts) (hgood : ∀ w ∈ Ts, (w.onTables && w.keeps) = true ∨ ∃ ty, w = .arrayClass ty) : GoodIn Ts (.code y bytes maxLy rety :: Ts) := by
  intro w hw
  rcases List.mem_cons.mp hw with rfl | hw
  · exact ⟨hcode, hgood _ hcode⟩
  · exact ⟨hw, hgood _ hw⟩
/-- what comes back from a call of ours -/
theorem j_call {p : Program} {e : Env} {s : State} {m : MethodId} {args : Array Value} {below : List Frame} {meth : Method} {c : Code} {H : Heap} {locs : List Loc} {D : va_G} {cA : Nat → ClassId} {ad : Nat → Nat} {A : Nat → Prop} {lsA : Array Slot} {Qy : Option Value → jW → Prop} {st0 rest : List Value} {a : Array Value}
    (X : jC cl Ns Ts own cc nL ret ls ws p s m args meth c H locs D cA ad A lsA)
    (hrun : va_Run p l e R s m args below meth c H locs 0 0 0 0 (F0 m pc lsA st0) (rest.map (jv ad)) (jQ cl cA D ad (jA ad ws.length) ws.length Qy a) (jA ad ws.length))
    (k : ∀ (r : Option Value) (w : jW), Qy r w → w.length = ws.length → JW l cl Ns Ts own cc nL ret R (pc + 3) ls (r.toList ++ rest) w Q) :
    W p l e R s m args below meth c H locs 0 0 (MQ below (jQ cl cA D ad A ws.length Q) args s 0 0 A) (F0 m pc lsA st0) := by
  obtain ⟨hx, hb, hr, hml, hlk, hown, hts, hN, hK, hP, hD, hS, hl⟩ := id X
  have hAA : ∀ q, jA ad ws.length q → A q := by
    rintro q ⟨j, hj, rfl⟩
    have hj2 : ws[j]? = some ws[j] := List.getElem?_eq_getElem hj
    exact hD.2 j _ (jw_at hj2)
  intro T hT Y
  obtain ⟨v, st₀, t, T', L, h0, X', hL, e1, e2, ⟨⟨r, w, hv, hq, hwl, hP1, hK1, hD1⟩, hz, hk⟩, stp⟩ := hrun T hT Y
  rw [h0] at hz hk
  have hv' : v = r.map (jv ad) := by simpa using hv
  subst hv'
  have hS' : va_S A s.heap T'.heap (locs ++ L) := ⟨Nat.le_trans hS.1 (by rw [e1]; exact hz), fun q h1 h2 => by rw [e1, hk q (Nat.lt_of_lt_of_le h1 hS.1) (fun z => h2 (hAA q z))]; exact hS.2.1 q h1 h2, fun q hq => by
      rcases List.mem_append.mp hq with h | h
      · exact hS.2.2 q h
      · exact hAA _ (hL q h)⟩
  have X2 : jC cl Ns Ts own cc nL ret ls w p s m args meth c T'.heap (locs ++ L) D cA ad A lsA := ⟨hx, hb, hr, hml, hlk, hown, hts, hN, hK, by rw [e1]; exact hP1, hD1.weaken (fun _ _ _ h => hAA _ h), hS', hl⟩
  have K := k r w hq hwl p e s m args below meth c T'.heap (locs ++ L) D cA ad A lsA X2
  rw [hwl] at K
  have e3 : (r.toList ++ rest).map (jv ad) = (r.map (jv ad)).toList ++ rest.map (jv ad) := by cases r <;> simp
  rw [e3] at K
  obtain ⟨t2, a1, b1⟩ := K T' rfl X'
  exact ⟨t2, stp t2 a1, b1⟩
theorem j_sum (ad : Nat → Nat) (st : List Value) : ((st.map (jv ad)).map fun v => v.category).sum = (st.map fun v => v.category).sum := by
  rw [List.map_map]; congr 1; apply List.map_congr_left; intro v _; exact jv_cat ad v
theorem j_blind {D : va_G} {cA : Nat → ClassId} {ad : Nat → Nat} {av : List Value} : FrameBlind (va_Pc (av.map (jv ad)) (fun U => jN Ns U ∧ va_P D cl (jw cA ad ws) U.heap ∧ va_K D cl (jT cA) U ∧ va_D (jA ad ws.length) (jw cA ad ws))) := by
  intro a U g mk q
  obtain ⟨q0, qN, qP, qK, qD⟩ := q
  exact ⟨q0, fun w hw => va_Nw.same (u := U) (U := U.calling g mk a) rfl rfl (qN w hw), qP, va_K.moved (u := U) (U := U.calling g mk a) (Vm.Alike.refl U.vm) qK, qD⟩
theorem j_own {p : Program} {s : State} {m : MethodId} {args : Array Value} {meth : Method} {c : Code} {H : Heap} {locs : List Loc} {D : va_G} {cA : Nat → ClassId} {ad : Nat → Nat} {A : Nat → Prop} {lsA : Array Slot} (X : jC cl Ns Ts own cc nL ret ls ws p s m args meth c H locs D cA ad A lsA) : va_D (jA ad ws.length) (jw cA ad ws) := by
  obtain ⟨hx, hb, hr, hml, hlk, hown, hts, hN, hK, hP, hD, hS, hl⟩ := X
  refine ⟨hD.1, fun k q hk => ?_⟩
  have hk2 : k < ws.length := by
    have := (List.getElem?_eq_some_iff.mp hk).1
    rwa [jw_len] at this
  have := jw_at (cA := cA) (ad := ad) (List.getElem?_eq_getElem hk2)
  rw [this] at hk
  cases hk
  exact ⟨k, hk2, rfl⟩
theorem J_callS {index n maxLy : Nat} {y : MethodName} {bytes : ByteArray} {rety : Option FieldType} {Ry : Room} {As rest : List Value} {Qy : Option Value → jW → Prop} (hd : decode cc pc = .ok (.invokestatic index, 3)) (hM : JMet l cl Ns (.code y bytes maxLy rety :: Ts) y Ry As ws Qy) (hcode : Cond.code y bytes maxLy rety ∈ Ts) (hgood : ∀ w ∈ Ts, (w.onTables && w.keeps) = true ∨ ∃ ty, w = .arrayClass ty) (hrc : Ry.cells = 0) (hrs : Ry.slots = 0) (hini : Cond.initialized y.cls ∈ Ts) (hli : Cond.methodLink own index y ∈ Ts) (hdy : y.cls ≠ "java/lang/invoke/MethodHandle" ∧ y.cls ≠ "java/lang/invoke/VarHandle" ∧ (parseMethodDescriptor y.desc).map (fun d => d.parameters.length) = some n) (hR : Ry.frames + 1 ≤ R.frames ∧ 8 + (maxLy + 11) + Ry.locals ≤ R.locals) (hn : As.length = n) (hsum : (rest.map fun v => v.category).sum ≤ 8) (hst : Cond.static y ∈ Ts)
    (k : ∀ (r : Option Value) (w : jW), Qy r w → w.length = ws.length → JW l cl Ns Ts own cc nL ret R (pc + 3) ls (r.toList ++ rest) w Q) : JW l cl Ns Ts own cc nL ret R pc ls (As.reverse ++ rest) ws Q := by
  intro p e s m args below meth c H locs D cA ad A lsA X
  obtain ⟨hx, hb, hr, hml, hlk, hown, hts, hN, hK, hP, hD, hS, hl⟩ := id X
  have hDc := j_own X
  have hG := j_good hcode hgood
  refine j_call X (rest := rest) (va_runS (As := As.map (jv ad)) (rest := rest.map (jv ad)) (n := n) ⟨hx, hb, hml, hown, hts⟩ (hM D cA ad) ⟨callB_of n hts hG rfl hrc hrs (hts _ hini) (hts _ hli) hdy hR, hts _ hst⟩ ⟨j_blind, fun U hU hW => ⟨rfl, jN_warm hW hN, by rw [hU]; exact hP, va_K.moved hW.alike hK, hDc⟩⟩ rfl (by rw [List.length_map]; exact hn) hl.1 (by simp) (lv_room (by rw [j_sum]; exact hsum)) hd ⟨Nat.zero_le _, Nat.zero_le _⟩) k
theorem J_callSN {index n maxLy : Nat} {y : MethodName} {bytes : ByteArray} {rety : Option FieldType} {Ry : Room} {As rest : List Value} {Qy : Option Value → jW → Prop} {host : String} (hd : decode cc pc = .ok (.invokestatic index, 3)) (hM : JMet l cl Ns (.code y bytes maxLy rety :: Ts) y Ry As ws Qy) (hcode : Cond.code y bytes maxLy rety ∈ Ts) (hgood : ∀ w ∈ Ts, (w.onTables && w.keeps) = true ∨ ∃ ty, w = .arrayClass ty) (hrc : Ry.cells = 0) (hrs : Ry.slots = 0) (hini : Cond.initialized y.cls ∈ Ts) (hli : ((own, index, y, host) : String × Nat × MethodName × String) ∈ Ns) (hdy : y.cls ≠ "java/lang/invoke/MethodHandle" ∧ y.cls ≠ "java/lang/invoke/VarHandle" ∧ (parseMethodDescriptor y.desc).map (fun d => d.parameters.length) = some n) (hR : Ry.frames + 1 ≤ R.frames ∧ 8 + (maxLy + 11) + Ry.locals ≤ R.locals) (hn : As.length = n) (hsum : (rest.map fun v => v.category).sum ≤ 8) (hst : Cond.static y ∈ Ts)
    (k : ∀ (r : Option Value) (w : jW), Qy r w → w.length = ws.length → JW l cl Ns Ts own cc nL ret R (pc + 3) ls (r.toList ++ rest) w Q) : JW l cl Ns Ts own cc nL ret R pc ls (As.reverse ++ rest) ws Q := by
  intro p e s m args below meth c H locs D cA ad A lsA X
  obtain ⟨hx, hb, hr, hml, hlk, hown, hts, hN, hK, hP, hD, hS, hl⟩ := id X
  have hDc := j_own X
  have hG := j_good hcode hgood
  refine j_call X (rest := rest) (va_runSN (As := As.map (jv ad)) (rest := rest.map (jv ad)) (n := n) ⟨hx, hb, hml, hown, hts⟩ (hM D cA ad) ⟨va_cnB n hts hG rfl hrc hrs (hN _ hli) (hts _ hini) hdy hR, hts _ hst, trivial⟩ ⟨j_blind, fun U hU hW => ⟨rfl, jN_warm hW hN, by rw [hU]; exact hP, va_K.moved hW.alike hK, hDc⟩⟩ rfl (by rw [List.length_map]; exact hn) hl.1 (by simp) (lv_room (by rw [j_sum]; exact hsum)) hd ⟨Nat.zero_le _, Nat.zero_le _⟩) k
theorem J_callV {index n maxLy : Nat} {y : MethodName} {bytes : ByteArray} {rety : Option FieldType} {Ry : Room} {As rest : List Value} {Qy : Option Value → jW → Prop} {b ci N : Nat} {fs : List Value} {T : u_T} (hd : decode cc pc = .ok (.invokevirtual index, 3)) (hM : JMet l cl Ns (.code y bytes maxLy rety :: Ts) y Ry (.ref b :: As) ws Qy) (he : ws[b]? = some (.inr (ci, fs))) (hc : cl[ci]? = some (y.cls, T, N)) (hcode : Cond.code y bytes maxLy rety ∈ Ts) (hgood : ∀ w ∈ Ts, (w.onTables && w.keeps) = true ∨ ∃ ty, w = .arrayClass ty) (hrc : Ry.cells = 0) (hrs : Ry.slots = 0) (hini : Cond.initialized y.cls ∈ Ts) (hli : Cond.methodLink own index y ∈ Ts) (hdy : y.cls ≠ "java/lang/invoke/MethodHandle" ∧ y.cls ≠ "java/lang/invoke/VarHandle" ∧ (parseMethodDescriptor y.desc).map (fun d => d.parameters.length) = some n) (hR : Ry.frames + 1 ≤ R.frames ∧ 8 + (maxLy + 11) + Ry.locals ≤ R.locals) (hn : As.length = n) (hsum : (rest.map fun v => v.category).sum ≤ 8) (hst : Cond.instanceMethod y ∈ Ts) (hsel : Cond.selects y.cls y y ∈ Ts)
    (k : ∀ (r : Option Value) (w : jW), Qy r w → w.length = ws.length → JW l cl Ns Ts own cc nL ret R (pc + 3) ls (r.toList ++ rest) w Q) : JW l cl Ns Ts own cc nL ret R pc ls (As.reverse ++ .ref b :: rest) ws Q := by
  intro p e s m args below meth c H locs D cA ad A lsA X
  obtain ⟨hx, hb, hr, hml, hlk, hown, hts, hN, hK, hP, hD, hS, hl⟩ := id X
  have hDc := j_own X
  have hG := j_good hcode hgood
  refine j_call X (rest := rest) (va_runV (C := y.cls) (b := ad b) (As := As.map (jv ad)) (rest := rest.map (jv ad)) (n := n) ⟨hx, hb, hml, hown, hts⟩ (hM D cA ad) ⟨callB_of n hts hG rfl hrc hrs (hts _ hini) (hts _ hli) hdy hR, hts _ hst, hts _ hsel⟩ ⟨j_blind, va_recv hK hP hc (jw_at he), fun U hU hW => ⟨rfl, jN_warm hW hN, by rw [hU]; exact hP, va_K.moved hW.alike hK, hDc⟩⟩ rfl (by rw [List.length_map]; exact hn) hl.1 (by simp [jv]) (lv_room (by rw [j_sum]; exact hsum)) hd ⟨Nat.zero_le _, Nat.zero_le _⟩) k
theorem J_callVN {index n maxLy : Nat} {y : MethodName} {bytes : ByteArray} {rety : Option FieldType} {Ry : Room} {As rest : List Value} {Qy : Option Value → jW → Prop} {host : String} {b ci N : Nat} {fs : List Value} {T : u_T} (hd : decode cc pc = .ok (.invokevirtual index, 3)) (hM : JMet l cl Ns (.code y bytes maxLy rety :: Ts) y Ry (.ref b :: As) ws Qy) (he : ws[b]? = some (.inr (ci, fs))) (hc : cl[ci]? = some (y.cls, T, N)) (hcode : Cond.code y bytes maxLy rety ∈ Ts) (hgood : ∀ w ∈ Ts, (w.onTables && w.keeps) = true ∨ ∃ ty, w = .arrayClass ty) (hrc : Ry.cells = 0) (hrs : Ry.slots = 0) (hini : Cond.initialized y.cls ∈ Ts) (hli : ((own, index, y, host) : String × Nat × MethodName × String) ∈ Ns) (hdy : y.cls ≠ "java/lang/invoke/MethodHandle" ∧ y.cls ≠ "java/lang/invoke/VarHandle" ∧ (parseMethodDescriptor y.desc).map (fun d => d.parameters.length) = some n) (hR : Ry.frames + 1 ≤ R.frames ∧ 8 + (maxLy + 11) + Ry.locals ≤ R.locals) (hn : As.length = n) (hsum : (rest.map fun v => v.category).sum ≤ 8) (hst : Cond.instanceMethod y ∈ Ts) (hsel : Cond.selects y.cls y y ∈ Ts)
    (k : ∀ (r : Option Value) (w : jW), Qy r w → w.length = ws.length → JW l cl Ns Ts own cc nL ret R (pc + 3) ls (r.toList ++ rest) w Q) : JW l cl Ns Ts own cc nL ret R pc ls (As.reverse ++ .ref b :: rest) ws Q := by
  intro p e s m args below meth c H locs D cA ad A lsA X
  obtain ⟨hx, hb, hr, hml, hlk, hown, hts, hN, hK, hP, hD, hS, hl⟩ := id X
  have hDc := j_own X
  have hG := j_good hcode hgood
  refine j_call X (rest := rest) (va_runVN (C := y.cls) (b := ad b) (As := As.map (jv ad)) (rest := rest.map (jv ad)) (n := n) ⟨hx, hb, hml, hown, hts⟩ (hM D cA ad) ⟨va_cnB n hts hG rfl hrc hrs (hN _ hli) (hts _ hini) hdy hR, hts _ hst, hts _ hsel⟩ ⟨j_blind, va_recv hK hP hc (jw_at he), fun U hU hW => ⟨rfl, jN_warm hW hN, by rw [hU]; exact hP, va_K.moved hW.alike hK, hDc⟩⟩ rfl (by rw [List.length_map]; exact hn) hl.1 (by simp [jv]) (lv_room (by rw [j_sum]; exact hsum)) hd ⟨Nat.zero_le _, Nat.zero_le _⟩) k
theorem J_cSi0 {index maxLy : Nat} {y : MethodName} {bytes : ByteArray} {rety : Option FieldType} {Ry : Room} {r : Int32} {w1 : jW} (hd : decode cc pc = .ok (.invokestatic index, 3)) (hM : JMet l cl Ns (.code y bytes maxLy rety :: Ts) y Ry [] ws (fun v w => v = some (.int r) ∧ w = w1)) (hcode : Cond.code y bytes maxLy rety ∈ Ts) (hgood : ∀ w ∈ Ts, (w.onTables && w.keeps) = true ∨ ∃ ty, w = .arrayClass ty) (hrc : Ry.cells = 0) (hrs : Ry.slots = 0) (hini : Cond.initialized y.cls ∈ Ts) (hli : Cond.methodLink own index y ∈ Ts) (hdy : y.cls ≠ "java/lang/invoke/MethodHandle" ∧ y.cls ≠ "java/lang/invoke/VarHandle" ∧ (parseMethodDescriptor y.desc).map (fun d => d.parameters.length) = some 0) (hR : Ry.frames + 1 ≤ R.frames ∧ 8 + (maxLy + 11) + Ry.locals ≤ R.locals) (hsum : (st.map fun v => v.category).sum ≤ 8) (hst : Cond.static y ∈ Ts)
    (k : JW l cl Ns Ts own cc nL ret R (pc + 3) ls (.int r :: st) w1 Q) : JW l cl Ns Ts own cc nL ret R pc ls (st) ws Q :=
  J_callS (As := []) (rest := st) hd hM hcode hgood hrc hrs hini hli hdy hR rfl hsum hst (fun r0 w hq _ => by obtain ⟨rfl, rfl⟩ := hq; exact k)
theorem J_cSv0 {index maxLy : Nat} {y : MethodName} {bytes : ByteArray} {rety : Option FieldType} {Ry : Room} {w1 : jW} (hd : decode cc pc = .ok (.invokestatic index, 3)) (hM : JMet l cl Ns (.code y bytes maxLy rety :: Ts) y Ry [] ws (fun v w => v = none ∧ w = w1)) (hcode : Cond.code y bytes maxLy rety ∈ Ts) (hgood : ∀ w ∈ Ts, (w.onTables && w.keeps) = true ∨ ∃ ty, w = .arrayClass ty) (hrc : Ry.cells = 0) (hrs : Ry.slots = 0) (hini : Cond.initialized y.cls ∈ Ts) (hli : Cond.methodLink own index y ∈ Ts) (hdy : y.cls ≠ "java/lang/invoke/MethodHandle" ∧ y.cls ≠ "java/lang/invoke/VarHandle" ∧ (parseMethodDescriptor y.desc).map (fun d => d.parameters.length) = some 0) (hR : Ry.frames + 1 ≤ R.frames ∧ 8 + (maxLy + 11) + Ry.locals ≤ R.locals) (hsum : (st.map fun v => v.category).sum ≤ 8) (hst : Cond.static y ∈ Ts)
    (k : JW l cl Ns Ts own cc nL ret R (pc + 3) ls st w1 Q) : JW l cl Ns Ts own cc nL ret R pc ls (st) ws Q :=
  J_callS (As := []) (rest := st) hd hM hcode hgood hrc hrs hini hli hdy hR rfl hsum hst (fun r0 w hq _ => by obtain ⟨rfl, rfl⟩ := hq; exact k)
theorem J_cSi1 {index maxLy : Nat} {y : MethodName} {bytes : ByteArray} {rety : Option FieldType} {Ry : Room} {r : Int32} {v1 : Value} {w1 : jW} (hd : decode cc pc = .ok (.invokestatic index, 3)) (hM : JMet l cl Ns (.code y bytes maxLy rety :: Ts) y Ry [v1] ws (fun v w => v = some (.int r) ∧ w = w1)) (hcode : Cond.code y bytes maxLy rety ∈ Ts) (hgood : ∀ w ∈ Ts, (w.onTables && w.keeps) = true ∨ ∃ ty, w = .arrayClass ty) (hrc : Ry.cells = 0) (hrs : Ry.slots = 0) (hini : Cond.initialized y.cls ∈ Ts) (hli : Cond.methodLink own index y ∈ Ts) (hdy : y.cls ≠ "java/lang/invoke/MethodHandle" ∧ y.cls ≠ "java/lang/invoke/VarHandle" ∧ (parseMethodDescriptor y.desc).map (fun d => d.parameters.length) = some 1) (hR : Ry.frames + 1 ≤ R.frames ∧ 8 + (maxLy + 11) + Ry.locals ≤ R.locals) (hsum : (st.map fun v => v.category).sum ≤ 8) (hst : Cond.static y ∈ Ts)
    (k : JW l cl Ns Ts own cc nL ret R (pc + 3) ls (.int r :: st) w1 Q) : JW l cl Ns Ts own cc nL ret R pc ls (v1 :: st) ws Q :=
  J_callS (As := [v1]) (rest := st) hd hM hcode hgood hrc hrs hini hli hdy hR rfl hsum hst (fun r0 w hq _ => by obtain ⟨rfl, rfl⟩ := hq; exact k)
theorem J_cSv1 {index maxLy : Nat} {y : MethodName} {bytes : ByteArray} {rety : Option FieldType} {Ry : Room} {v1 : Value} {w1 : jW} (hd : decode cc pc = .ok (.invokestatic index, 3)) (hM : JMet l cl Ns (.code y bytes maxLy rety :: Ts) y Ry [v1] ws (fun v w => v = none ∧ w = w1)) (hcode : Cond.code y bytes maxLy rety ∈ Ts) (hgood : ∀ w ∈ Ts, (w.onTables && w.keeps) = true ∨ ∃ ty, w = .arrayClass ty) (hrc : Ry.cells = 0) (hrs : Ry.slots = 0) (hini : Cond.initialized y.cls ∈ Ts) (hli : Cond.methodLink own index y ∈ Ts) (hdy : y.cls ≠ "java/lang/invoke/MethodHandle" ∧ y.cls ≠ "java/lang/invoke/VarHandle" ∧ (parseMethodDescriptor y.desc).map (fun d => d.parameters.length) = some 1) (hR : Ry.frames + 1 ≤ R.frames ∧ 8 + (maxLy + 11) + Ry.locals ≤ R.locals) (hsum : (st.map fun v => v.category).sum ≤ 8) (hst : Cond.static y ∈ Ts)
    (k : JW l cl Ns Ts own cc nL ret R (pc + 3) ls st w1 Q) : JW l cl Ns Ts own cc nL ret R pc ls (v1 :: st) ws Q :=
  J_callS (As := [v1]) (rest := st) hd hM hcode hgood hrc hrs hini hli hdy hR rfl hsum hst (fun r0 w hq _ => by obtain ⟨rfl, rfl⟩ := hq; exact k)
theorem J_cSi2 {index maxLy : Nat} {y : MethodName} {bytes : ByteArray} {rety : Option FieldType} {Ry : Room} {r : Int32} {v1 v2 : Value} {w1 : jW} (hd : decode cc pc = .ok (.invokestatic index, 3)) (hM : JMet l cl Ns (.code y bytes maxLy rety :: Ts) y Ry [v1, v2] ws (fun v w => v = some (.int r) ∧ w = w1)) (hcode : Cond.code y bytes maxLy rety ∈ Ts) (hgood : ∀ w ∈ Ts, (w.onTables && w.keeps) = true ∨ ∃ ty, w = .arrayClass ty) (hrc : Ry.cells = 0) (hrs : Ry.slots = 0) (hini : Cond.initialized y.cls ∈ Ts) (hli : Cond.methodLink own index y ∈ Ts) (hdy : y.cls ≠ "java/lang/invoke/MethodHandle" ∧ y.cls ≠ "java/lang/invoke/VarHandle" ∧ (parseMethodDescriptor y.desc).map (fun d => d.parameters.length) = some 2) (hR : Ry.frames + 1 ≤ R.frames ∧ 8 + (maxLy + 11) + Ry.locals ≤ R.locals) (hsum : (st.map fun v => v.category).sum ≤ 8) (hst : Cond.static y ∈ Ts)
    (k : JW l cl Ns Ts own cc nL ret R (pc + 3) ls (.int r :: st) w1 Q) : JW l cl Ns Ts own cc nL ret R pc ls (v2 :: v1 :: st) ws Q :=
  J_callS (As := [v1, v2]) (rest := st) hd hM hcode hgood hrc hrs hini hli hdy hR rfl hsum hst (fun r0 w hq _ => by obtain ⟨rfl, rfl⟩ := hq; exact k)
theorem J_cSv2 {index maxLy : Nat} {y : MethodName} {bytes : ByteArray} {rety : Option FieldType} {Ry : Room} {v1 v2 : Value} {w1 : jW} (hd : decode cc pc = .ok (.invokestatic index, 3)) (hM : JMet l cl Ns (.code y bytes maxLy rety :: Ts) y Ry [v1, v2] ws (fun v w => v = none ∧ w = w1)) (hcode : Cond.code y bytes maxLy rety ∈ Ts) (hgood : ∀ w ∈ Ts, (w.onTables && w.keeps) = true ∨ ∃ ty, w = .arrayClass ty) (hrc : Ry.cells = 0) (hrs : Ry.slots = 0) (hini : Cond.initialized y.cls ∈ Ts) (hli : Cond.methodLink own index y ∈ Ts) (hdy : y.cls ≠ "java/lang/invoke/MethodHandle" ∧ y.cls ≠ "java/lang/invoke/VarHandle" ∧ (parseMethodDescriptor y.desc).map (fun d => d.parameters.length) = some 2) (hR : Ry.frames + 1 ≤ R.frames ∧ 8 + (maxLy + 11) + Ry.locals ≤ R.locals) (hsum : (st.map fun v => v.category).sum ≤ 8) (hst : Cond.static y ∈ Ts)
    (k : JW l cl Ns Ts own cc nL ret R (pc + 3) ls st w1 Q) : JW l cl Ns Ts own cc nL ret R pc ls (v2 :: v1 :: st) ws Q :=
  J_callS (As := [v1, v2]) (rest := st) hd hM hcode hgood hrc hrs hini hli hdy hR rfl hsum hst (fun r0 w hq _ => by obtain ⟨rfl, rfl⟩ := hq; exact k)
theorem J_cSi3 {index maxLy : Nat} {y : MethodName} {bytes : ByteArray} {rety : Option FieldType} {Ry : Room} {r : Int32} {v1 v2 v3 : Value} {w1 : jW} (hd : decode cc pc = .ok (.invokestatic index, 3)) (hM : JMet l cl Ns (.code y bytes maxLy rety :: Ts) y Ry [v1, v2, v3] ws (fun v w => v = some (.int r) ∧ w = w1)) (hcode : Cond.code y bytes maxLy rety ∈ Ts) (hgood : ∀ w ∈ Ts, (w.onTables && w.keeps) = true ∨ ∃ ty, w = .arrayClass ty) (hrc : Ry.cells = 0) (hrs : Ry.slots = 0) (hini : Cond.initialized y.cls ∈ Ts) (hli : Cond.methodLink own index y ∈ Ts) (hdy : y.cls ≠ "java/lang/invoke/MethodHandle" ∧ y.cls ≠ "java/lang/invoke/VarHandle" ∧ (parseMethodDescriptor y.desc).map (fun d => d.parameters.length) = some 3) (hR : Ry.frames + 1 ≤ R.frames ∧ 8 + (maxLy + 11) + Ry.locals ≤ R.locals) (hsum : (st.map fun v => v.category).sum ≤ 8) (hst : Cond.static y ∈ Ts)
    (k : JW l cl Ns Ts own cc nL ret R (pc + 3) ls (.int r :: st) w1 Q) : JW l cl Ns Ts own cc nL ret R pc ls (v3 :: v2 :: v1 :: st) ws Q :=
  J_callS (As := [v1, v2, v3]) (rest := st) hd hM hcode hgood hrc hrs hini hli hdy hR rfl hsum hst (fun r0 w hq _ => by obtain ⟨rfl, rfl⟩ := hq; exact k)
theorem J_cSv3 {index maxLy : Nat} {y : MethodName} {bytes : ByteArray} {rety : Option FieldType} {Ry : Room} {v1 v2 v3 : Value} {w1 : jW} (hd : decode cc pc = .ok (.invokestatic index, 3)) (hM : JMet l cl Ns (.code y bytes maxLy rety :: Ts) y Ry [v1, v2, v3] ws (fun v w => v = none ∧ w = w1)) (hcode : Cond.code y bytes maxLy rety ∈ Ts) (hgood : ∀ w ∈ Ts, (w.onTables && w.keeps) = true ∨ ∃ ty, w = .arrayClass ty) (hrc : Ry.cells = 0) (hrs : Ry.slots = 0) (hini : Cond.initialized y.cls ∈ Ts) (hli : Cond.methodLink own index y ∈ Ts) (hdy : y.cls ≠ "java/lang/invoke/MethodHandle" ∧ y.cls ≠ "java/lang/invoke/VarHandle" ∧ (parseMethodDescriptor y.desc).map (fun d => d.parameters.length) = some 3) (hR : Ry.frames + 1 ≤ R.frames ∧ 8 + (maxLy + 11) + Ry.locals ≤ R.locals) (hsum : (st.map fun v => v.category).sum ≤ 8) (hst : Cond.static y ∈ Ts)
    (k : JW l cl Ns Ts own cc nL ret R (pc + 3) ls st w1 Q) : JW l cl Ns Ts own cc nL ret R pc ls (v3 :: v2 :: v1 :: st) ws Q :=
  J_callS (As := [v1, v2, v3]) (rest := st) hd hM hcode hgood hrc hrs hini hli hdy hR rfl hsum hst (fun r0 w hq _ => by obtain ⟨rfl, rfl⟩ := hq; exact k)
theorem J_cSi0N {index maxLy : Nat} {y : MethodName} {bytes : ByteArray} {rety : Option FieldType} {Ry : Room} {host : String} {r : Int32} {w1 : jW} (hd : decode cc pc = .ok (.invokestatic index, 3)) (hM : JMet l cl Ns (.code y bytes maxLy rety :: Ts) y Ry [] ws (fun v w => v = some (.int r) ∧ w = w1)) (hcode : Cond.code y bytes maxLy rety ∈ Ts) (hgood : ∀ w ∈ Ts, (w.onTables && w.keeps) = true ∨ ∃ ty, w = .arrayClass ty) (hrc : Ry.cells = 0) (hrs : Ry.slots = 0) (hini : Cond.initialized y.cls ∈ Ts) (hli : ((own, index, y, host) : String × Nat × MethodName × String) ∈ Ns) (hdy : y.cls ≠ "java/lang/invoke/MethodHandle" ∧ y.cls ≠ "java/lang/invoke/VarHandle" ∧ (parseMethodDescriptor y.desc).map (fun d => d.parameters.length) = some 0) (hR : Ry.frames + 1 ≤ R.frames ∧ 8 + (maxLy + 11) + Ry.locals ≤ R.locals) (hsum : (st.map fun v => v.category).sum ≤ 8) (hst : Cond.static y ∈ Ts)
    (k : JW l cl Ns Ts own cc nL ret R (pc + 3) ls (.int r :: st) w1 Q) : JW l cl Ns Ts own cc nL ret R pc ls (st) ws Q :=
  J_callSN (As := []) (rest := st) hd hM hcode hgood hrc hrs hini hli hdy hR rfl hsum hst (fun r0 w hq _ => by obtain ⟨rfl, rfl⟩ := hq; exact k)
theorem J_cSv0N {index maxLy : Nat} {y : MethodName} {bytes : ByteArray} {rety : Option FieldType} {Ry : Room} {host : String} {w1 : jW} (hd : decode cc pc = .ok (.invokestatic index, 3)) (hM : JMet l cl Ns (.code y bytes maxLy rety :: Ts) y Ry [] ws (fun v w => v = none ∧ w = w1)) (hcode : Cond.code y bytes maxLy rety ∈ Ts) (hgood : ∀ w ∈ Ts, (w.onTables && w.keeps) = true ∨ ∃ ty, w = .arrayClass ty) (hrc : Ry.cells = 0) (hrs : Ry.slots = 0) (hini : Cond.initialized y.cls ∈ Ts) (hli : ((own, index, y, host) : String × Nat × MethodName × String) ∈ Ns) (hdy : y.cls ≠ "java/lang/invoke/MethodHandle" ∧ y.cls ≠ "java/lang/invoke/VarHandle" ∧ (parseMethodDescriptor y.desc).map (fun d => d.parameters.length) = some 0) (hR : Ry.frames + 1 ≤ R.frames ∧ 8 + (maxLy + 11) + Ry.locals ≤ R.locals) (hsum : (st.map fun v => v.category).sum ≤ 8) (hst : Cond.static y ∈ Ts)
    (k : JW l cl Ns Ts own cc nL ret R (pc + 3) ls st w1 Q) : JW l cl Ns Ts own cc nL ret R pc ls (st) ws Q :=
  J_callSN (As := []) (rest := st) hd hM hcode hgood hrc hrs hini hli hdy hR rfl hsum hst (fun r0 w hq _ => by obtain ⟨rfl, rfl⟩ := hq; exact k)
theorem J_cSi1N {index maxLy : Nat} {y : MethodName} {bytes : ByteArray} {rety : Option FieldType} {Ry : Room} {host : String} {r : Int32} {v1 : Value} {w1 : jW} (hd : decode cc pc = .ok (.invokestatic index, 3)) (hM : JMet l cl Ns (.code y bytes maxLy rety :: Ts) y Ry [v1] ws (fun v w => v = some (.int r) ∧ w = w1)) (hcode : Cond.code y bytes maxLy rety ∈ Ts) (hgood : ∀ w ∈ Ts, (w.onTables && w.keeps) = true ∨ ∃ ty, w = .arrayClass ty) (hrc : Ry.cells = 0) (hrs : Ry.slots = 0) (hini : Cond.initialized y.cls ∈ Ts) (hli : ((own, index, y, host) : String × Nat × MethodName × String) ∈ Ns) (hdy : y.cls ≠ "java/lang/invoke/MethodHandle" ∧ y.cls ≠ "java/lang/invoke/VarHandle" ∧ (parseMethodDescriptor y.desc).map (fun d => d.parameters.length) = some 1) (hR : Ry.frames + 1 ≤ R.frames ∧ 8 + (maxLy + 11) + Ry.locals ≤ R.locals) (hsum : (st.map fun v => v.category).sum ≤ 8) (hst : Cond.static y ∈ Ts)
    (k : JW l cl Ns Ts own cc nL ret R (pc + 3) ls (.int r :: st) w1 Q) : JW l cl Ns Ts own cc nL ret R pc ls (v1 :: st) ws Q :=
  J_callSN (As := [v1]) (rest := st) hd hM hcode hgood hrc hrs hini hli hdy hR rfl hsum hst (fun r0 w hq _ => by obtain ⟨rfl, rfl⟩ := hq; exact k)
theorem J_cSv1N {index maxLy : Nat} {y : MethodName} {bytes : ByteArray} {rety : Option FieldType} {Ry : Room} {host : String} {v1 : Value} {w1 : jW} (hd : decode cc pc = .ok (.invokestatic index, 3)) (hM : JMet l cl Ns (.code y bytes maxLy rety :: Ts) y Ry [v1] ws (fun v w => v = none ∧ w = w1)) (hcode : Cond.code y bytes maxLy rety ∈ Ts) (hgood : ∀ w ∈ Ts, (w.onTables && w.keeps) = true ∨ ∃ ty, w = .arrayClass ty) (hrc : Ry.cells = 0) (hrs : Ry.slots = 0) (hini : Cond.initialized y.cls ∈ Ts) (hli : ((own, index, y, host) : String × Nat × MethodName × String) ∈ Ns) (hdy : y.cls ≠ "java/lang/invoke/MethodHandle" ∧ y.cls ≠ "java/lang/invoke/VarHandle" ∧ (parseMethodDescriptor y.desc).map (fun d => d.parameters.length) = some 1) (hR : Ry.frames + 1 ≤ R.frames ∧ 8 + (maxLy + 11) + Ry.locals ≤ R.locals) (hsum : (st.map fun v => v.category).sum ≤ 8) (hst : Cond.static y ∈ Ts)
    (k : JW l cl Ns Ts own cc nL ret R (pc + 3) ls st w1 Q) : JW l cl Ns Ts own cc nL ret R pc ls (v1 :: st) ws Q :=
  J_callSN (As := [v1]) (rest := st) hd hM hcode hgood hrc hrs hini hli hdy hR rfl hsum hst (fun r0 w hq _ => by obtain ⟨rfl, rfl⟩ := hq; exact k)
theorem J_cSi2N {index maxLy : Nat} {y : MethodName} {bytes : ByteArray} {rety : Option FieldType} {Ry : Room} {host : String} {r : Int32} {v1 v2 : Value} {w1 : jW} (hd : decode cc pc = .ok (.invokestatic index, 3)) (hM : JMet l cl Ns (.code y bytes maxLy rety :: Ts) y Ry [v1, v2] ws (fun v w => v = some (.int r) ∧ w = w1)) (hcode : Cond.code y bytes maxLy rety ∈ Ts) (hgood : ∀ w ∈ Ts, (w.onTables && w.keeps) = true ∨ ∃ ty, w = .arrayClass ty) (hrc : Ry.cells = 0) (hrs : Ry.slots = 0) (hini : Cond.initialized y.cls ∈ Ts) (hli : ((own, index, y, host) : String × Nat × MethodName × String) ∈ Ns) (hdy : y.cls ≠ "java/lang/invoke/MethodHandle" ∧ y.cls ≠ "java/lang/invoke/VarHandle" ∧ (parseMethodDescriptor y.desc).map (fun d => d.parameters.length) = some 2) (hR : Ry.frames + 1 ≤ R.frames ∧ 8 + (maxLy + 11) + Ry.locals ≤ R.locals) (hsum : (st.map fun v => v.category).sum ≤ 8) (hst : Cond.static y ∈ Ts)
    (k : JW l cl Ns Ts own cc nL ret R (pc + 3) ls (.int r :: st) w1 Q) : JW l cl Ns Ts own cc nL ret R pc ls (v2 :: v1 :: st) ws Q :=
  J_callSN (As := [v1, v2]) (rest := st) hd hM hcode hgood hrc hrs hini hli hdy hR rfl hsum hst (fun r0 w hq _ => by obtain ⟨rfl, rfl⟩ := hq; exact k)
theorem J_cSv2N {index maxLy : Nat} {y : MethodName} {bytes : ByteArray} {rety : Option FieldType} {Ry : Room} {host : String} {v1 v2 : Value} {w1 : jW} (hd : decode cc pc = .ok (.invokestatic index, 3)) (hM : JMet l cl Ns (.code y bytes maxLy rety :: Ts) y Ry [v1, v2] ws (fun v w => v = none ∧ w = w1)) (hcode : Cond.code y bytes maxLy rety ∈ Ts) (hgood : ∀ w ∈ Ts, (w.onTables && w.keeps) = true ∨ ∃ ty, w = .arrayClass ty) (hrc : Ry.cells = 0) (hrs : Ry.slots = 0) (hini : Cond.initialized y.cls ∈ Ts) (hli : ((own, index, y, host) : String × Nat × MethodName × String) ∈ Ns) (hdy : y.cls ≠ "java/lang/invoke/MethodHandle" ∧ y.cls ≠ "java/lang/invoke/VarHandle" ∧ (parseMethodDescriptor y.desc).map (fun d => d.parameters.length) = some 2) (hR : Ry.frames + 1 ≤ R.frames ∧ 8 + (maxLy + 11) + Ry.locals ≤ R.locals) (hsum : (st.map fun v => v.category).sum ≤ 8) (hst : Cond.static y ∈ Ts)
    (k : JW l cl Ns Ts own cc nL ret R (pc + 3) ls st w1 Q) : JW l cl Ns Ts own cc nL ret R pc ls (v2 :: v1 :: st) ws Q :=
  J_callSN (As := [v1, v2]) (rest := st) hd hM hcode hgood hrc hrs hini hli hdy hR rfl hsum hst (fun r0 w hq _ => by obtain ⟨rfl, rfl⟩ := hq; exact k)
theorem J_cSi3N {index maxLy : Nat} {y : MethodName} {bytes : ByteArray} {rety : Option FieldType} {Ry : Room} {host : String} {r : Int32} {v1 v2 v3 : Value} {w1 : jW} (hd : decode cc pc = .ok (.invokestatic index, 3)) (hM : JMet l cl Ns (.code y bytes maxLy rety :: Ts) y Ry [v1, v2, v3] ws (fun v w => v = some (.int r) ∧ w = w1)) (hcode : Cond.code y bytes maxLy rety ∈ Ts) (hgood : ∀ w ∈ Ts, (w.onTables && w.keeps) = true ∨ ∃ ty, w = .arrayClass ty) (hrc : Ry.cells = 0) (hrs : Ry.slots = 0) (hini : Cond.initialized y.cls ∈ Ts) (hli : ((own, index, y, host) : String × Nat × MethodName × String) ∈ Ns) (hdy : y.cls ≠ "java/lang/invoke/MethodHandle" ∧ y.cls ≠ "java/lang/invoke/VarHandle" ∧ (parseMethodDescriptor y.desc).map (fun d => d.parameters.length) = some 3) (hR : Ry.frames + 1 ≤ R.frames ∧ 8 + (maxLy + 11) + Ry.locals ≤ R.locals) (hsum : (st.map fun v => v.category).sum ≤ 8) (hst : Cond.static y ∈ Ts)
    (k : JW l cl Ns Ts own cc nL ret R (pc + 3) ls (.int r :: st) w1 Q) : JW l cl Ns Ts own cc nL ret R pc ls (v3 :: v2 :: v1 :: st) ws Q :=
  J_callSN (As := [v1, v2, v3]) (rest := st) hd hM hcode hgood hrc hrs hini hli hdy hR rfl hsum hst (fun r0 w hq _ => by obtain ⟨rfl, rfl⟩ := hq; exact k)
theorem J_cSv3N {index maxLy : Nat} {y : MethodName} {bytes : ByteArray} {rety : Option FieldType} {Ry : Room} {host : String} {v1 v2 v3 : Value} {w1 : jW} (hd : decode cc pc = .ok (.invokestatic index, 3)) (hM : JMet l cl Ns (.code y bytes maxLy rety :: Ts) y Ry [v1, v2, v3] ws (fun v w => v = none ∧ w = w1)) (hcode : Cond.code y bytes maxLy rety ∈ Ts) (hgood : ∀ w ∈ Ts, (w.onTables && w.keeps) = true ∨ ∃ ty, w = .arrayClass ty) (hrc : Ry.cells = 0) (hrs : Ry.slots = 0) (hini : Cond.initialized y.cls ∈ Ts) (hli : ((own, index, y, host) : String × Nat × MethodName × String) ∈ Ns) (hdy : y.cls ≠ "java/lang/invoke/MethodHandle" ∧ y.cls ≠ "java/lang/invoke/VarHandle" ∧ (parseMethodDescriptor y.desc).map (fun d => d.parameters.length) = some 3) (hR : Ry.frames + 1 ≤ R.frames ∧ 8 + (maxLy + 11) + Ry.locals ≤ R.locals) (hsum : (st.map fun v => v.category).sum ≤ 8) (hst : Cond.static y ∈ Ts)
    (k : JW l cl Ns Ts own cc nL ret R (pc + 3) ls st w1 Q) : JW l cl Ns Ts own cc nL ret R pc ls (v3 :: v2 :: v1 :: st) ws Q :=
  J_callSN (As := [v1, v2, v3]) (rest := st) hd hM hcode hgood hrc hrs hini hli hdy hR rfl hsum hst (fun r0 w hq _ => by obtain ⟨rfl, rfl⟩ := hq; exact k)
theorem J_cVi0 {index maxLy : Nat} {y : MethodName} {bytes : ByteArray} {rety : Option FieldType} {Ry : Room} {r : Int32} {b ci N : Nat} {fs : List Value} {T : u_T} {w1 : jW} (hd : decode cc pc = .ok (.invokevirtual index, 3)) (hM : JMet l cl Ns (.code y bytes maxLy rety :: Ts) y Ry (.ref b :: []) ws (fun v w => v = some (.int r) ∧ w = w1)) (he : ws[b]? = some (.inr (ci, fs))) (hc : cl[ci]? = some (y.cls, T, N)) (hcode : Cond.code y bytes maxLy rety ∈ Ts) (hgood : ∀ w ∈ Ts, (w.onTables && w.keeps) = true ∨ ∃ ty, w = .arrayClass ty) (hrc : Ry.cells = 0) (hrs : Ry.slots = 0) (hini : Cond.initialized y.cls ∈ Ts) (hli : Cond.methodLink own index y ∈ Ts) (hdy : y.cls ≠ "java/lang/invoke/MethodHandle" ∧ y.cls ≠ "java/lang/invoke/VarHandle" ∧ (parseMethodDescriptor y.desc).map (fun d => d.parameters.length) = some 0) (hR : Ry.frames + 1 ≤ R.frames ∧ 8 + (maxLy + 11) + Ry.locals ≤ R.locals) (hsum : (st.map fun v => v.category).sum ≤ 8) (hst : Cond.instanceMethod y ∈ Ts) (hsel : Cond.selects y.cls y y ∈ Ts)
    (k : JW l cl Ns Ts own cc nL ret R (pc + 3) ls (.int r :: st) w1 Q) : JW l cl Ns Ts own cc nL ret R pc ls (.ref b :: st) ws Q :=
  J_callV (As := []) (rest := st) hd hM he hc hcode hgood hrc hrs hini hli hdy hR rfl hsum hst hsel (fun r0 w hq _ => by obtain ⟨rfl, rfl⟩ := hq; exact k)
theorem J_cVv0 {index maxLy : Nat} {y : MethodName} {bytes : ByteArray} {rety : Option FieldType} {Ry : Room} {b ci N : Nat} {fs : List Value} {T : u_T} {w1 : jW} (hd : decode cc pc = .ok (.invokevirtual index, 3)) (hM : JMet l cl Ns (.code y bytes maxLy rety :: Ts) y Ry (.ref b :: []) ws (fun v w => v = none ∧ w = w1)) (he : ws[b]? = some (.inr (ci, fs))) (hc : cl[ci]? = some (y.cls, T, N)) (hcode : Cond.code y bytes maxLy rety ∈ Ts) (hgood : ∀ w ∈ Ts, (w.onTables && w.keeps) = true ∨ ∃ ty, w = .arrayClass ty) (hrc : Ry.cells = 0) (hrs : Ry.slots = 0) (hini : Cond.initialized y.cls ∈ Ts) (hli : Cond.methodLink own index y ∈ Ts) (hdy : y.cls ≠ "java/lang/invoke/MethodHandle" ∧ y.cls ≠ "java/lang/invoke/VarHandle" ∧ (parseMethodDescriptor y.desc).map (fun d => d.parameters.length) = some 0) (hR : Ry.frames + 1 ≤ R.frames ∧ 8 + (maxLy + 11) + Ry.locals ≤ R.locals) (hsum : (st.map fun v => v.category).sum ≤ 8) (hst : Cond.instanceMethod y ∈ Ts) (hsel : Cond.selects y.cls y y ∈ Ts)
    (k : JW l cl Ns Ts own cc nL ret R (pc + 3) ls st w1 Q) : JW l cl Ns Ts own cc nL ret R pc ls (.ref b :: st) ws Q :=
  J_callV (As := []) (rest := st) hd hM he hc hcode hgood hrc hrs hini hli hdy hR rfl hsum hst hsel (fun r0 w hq _ => by obtain ⟨rfl, rfl⟩ := hq; exact k)
theorem J_cVi1 {index maxLy : Nat} {y : MethodName} {bytes : ByteArray} {rety : Option FieldType} {Ry : Room} {r : Int32} {v1 : Value} {b ci N : Nat} {fs : List Value} {T : u_T} {w1 : jW} (hd : decode cc pc = .ok (.invokevirtual index, 3)) (hM : JMet l cl Ns (.code y bytes maxLy rety :: Ts) y Ry (.ref b :: [v1]) ws (fun v w => v = some (.int r) ∧ w = w1)) (he : ws[b]? = some (.inr (ci, fs))) (hc : cl[ci]? = some (y.cls, T, N)) (hcode : Cond.code y bytes maxLy rety ∈ Ts) (hgood : ∀ w ∈ Ts, (w.onTables && w.keeps) = true ∨ ∃ ty, w = .arrayClass ty) (hrc : Ry.cells = 0) (hrs : Ry.slots = 0) (hini : Cond.initialized y.cls ∈ Ts) (hli : Cond.methodLink own index y ∈ Ts) (hdy : y.cls ≠ "java/lang/invoke/MethodHandle" ∧ y.cls ≠ "java/lang/invoke/VarHandle" ∧ (parseMethodDescriptor y.desc).map (fun d => d.parameters.length) = some 1) (hR : Ry.frames + 1 ≤ R.frames ∧ 8 + (maxLy + 11) + Ry.locals ≤ R.locals) (hsum : (st.map fun v => v.category).sum ≤ 8) (hst : Cond.instanceMethod y ∈ Ts) (hsel : Cond.selects y.cls y y ∈ Ts)
    (k : JW l cl Ns Ts own cc nL ret R (pc + 3) ls (.int r :: st) w1 Q) : JW l cl Ns Ts own cc nL ret R pc ls (v1 :: .ref b :: st) ws Q :=
  J_callV (As := [v1]) (rest := st) hd hM he hc hcode hgood hrc hrs hini hli hdy hR rfl hsum hst hsel (fun r0 w hq _ => by obtain ⟨rfl, rfl⟩ := hq; exact k)
theorem J_cVv1 {index maxLy : Nat} {y : MethodName} {bytes : ByteArray} {rety : Option FieldType} {Ry : Room} {v1 : Value} {b ci N : Nat} {fs : List Value} {T : u_T} {w1 : jW} (hd : decode cc pc = .ok (.invokevirtual index, 3)) (hM : JMet l cl Ns (.code y bytes maxLy rety :: Ts) y Ry (.ref b :: [v1]) ws (fun v w => v = none ∧ w = w1)) (he : ws[b]? = some (.inr (ci, fs))) (hc : cl[ci]? = some (y.cls, T, N)) (hcode : Cond.code y bytes maxLy rety ∈ Ts) (hgood : ∀ w ∈ Ts, (w.onTables && w.keeps) = true ∨ ∃ ty, w = .arrayClass ty) (hrc : Ry.cells = 0) (hrs : Ry.slots = 0) (hini : Cond.initialized y.cls ∈ Ts) (hli : Cond.methodLink own index y ∈ Ts) (hdy : y.cls ≠ "java/lang/invoke/MethodHandle" ∧ y.cls ≠ "java/lang/invoke/VarHandle" ∧ (parseMethodDescriptor y.desc).map (fun d => d.parameters.length) = some 1) (hR : Ry.frames + 1 ≤ R.frames ∧ 8 + (maxLy + 11) + Ry.locals ≤ R.locals) (hsum : (st.map fun v => v.category).sum ≤ 8) (hst : Cond.instanceMethod y ∈ Ts) (hsel : Cond.selects y.cls y y ∈ Ts)
    (k : JW l cl Ns Ts own cc nL ret R (pc + 3) ls st w1 Q) : JW l cl Ns Ts own cc nL ret R pc ls (v1 :: .ref b :: st) ws Q :=
  J_callV (As := [v1]) (rest := st) hd hM he hc hcode hgood hrc hrs hini hli hdy hR rfl hsum hst hsel (fun r0 w hq _ => by obtain ⟨rfl, rfl⟩ := hq; exact k)
theorem J_cVi2 {index maxLy : Nat} {y : MethodName} {bytes : ByteArray} {rety : Option FieldType} {Ry : Room} {r : Int32} {v1 v2 : Value} {b ci N : Nat} {fs : List Value} {T : u_T} {w1 : jW} (hd : decode cc pc = .ok (.invokevirtual index, 3)) (hM : JMet l cl Ns (.code y bytes maxLy rety :: Ts) y Ry (.ref b :: [v1, v2]) ws (fun v w => v = some (.int r) ∧ w = w1)) (he : ws[b]? = some (.inr (ci, fs))) (hc : cl[ci]? = some (y.cls, T, N)) (hcode : Cond.code y bytes maxLy rety ∈ Ts) (hgood : ∀ w ∈ Ts, (w.onTables && w.keeps) = true ∨ ∃ ty, w = .arrayClass ty) (hrc : Ry.cells = 0) (hrs : Ry.slots = 0) (hini : Cond.initialized y.cls ∈ Ts) (hli : Cond.methodLink own index y ∈ Ts) (hdy : y.cls ≠ "java/lang/invoke/MethodHandle" ∧ y.cls ≠ "java/lang/invoke/VarHandle" ∧ (parseMethodDescriptor y.desc).map (fun d => d.parameters.length) = some 2) (hR : Ry.frames + 1 ≤ R.frames ∧ 8 + (maxLy + 11) + Ry.locals ≤ R.locals) (hsum : (st.map fun v => v.category).sum ≤ 8) (hst : Cond.instanceMethod y ∈ Ts) (hsel : Cond.selects y.cls y y ∈ Ts)
    (k : JW l cl Ns Ts own cc nL ret R (pc + 3) ls (.int r :: st) w1 Q) : JW l cl Ns Ts own cc nL ret R pc ls (v2 :: v1 :: .ref b :: st) ws Q :=
  J_callV (As := [v1, v2]) (rest := st) hd hM he hc hcode hgood hrc hrs hini hli hdy hR rfl hsum hst hsel (fun r0 w hq _ => by obtain ⟨rfl, rfl⟩ := hq; exact k)
theorem J_cVv2 {index maxLy : Nat} {y : MethodName} {bytes : ByteArray} {rety : Option FieldType} {Ry : Room} {v1 v2 : Value} {b ci N : Nat} {fs : List Value} {T : u_T} {w1 : jW} (hd : decode cc pc = .ok (.invokevirtual index, 3)) (hM : JMet l cl Ns (.code y bytes maxLy rety :: Ts) y Ry (.ref b :: [v1, v2]) ws (fun v w => v = none ∧ w = w1)) (he : ws[b]? = some (.inr (ci, fs))) (hc : cl[ci]? = some (y.cls, T, N)) (hcode : Cond.code y bytes maxLy rety ∈ Ts) (hgood : ∀ w ∈ Ts, (w.onTables && w.keeps) = true ∨ ∃ ty, w = .arrayClass ty) (hrc : Ry.cells = 0) (hrs : Ry.slots = 0) (hini : Cond.initialized y.cls ∈ Ts) (hli : Cond.methodLink own index y ∈ Ts) (hdy : y.cls ≠ "java/lang/invoke/MethodHandle" ∧ y.cls ≠ "java/lang/invoke/VarHandle" ∧ (parseMethodDescriptor y.desc).map (fun d => d.parameters.length) = some 2) (hR : Ry.frames + 1 ≤ R.frames ∧ 8 + (maxLy + 11) + Ry.locals ≤ R.locals) (hsum : (st.map fun v => v.category).sum ≤ 8) (hst : Cond.instanceMethod y ∈ Ts) (hsel : Cond.selects y.cls y y ∈ Ts)
    (k : JW l cl Ns Ts own cc nL ret R (pc + 3) ls st w1 Q) : JW l cl Ns Ts own cc nL ret R pc ls (v2 :: v1 :: .ref b :: st) ws Q :=
  J_callV (As := [v1, v2]) (rest := st) hd hM he hc hcode hgood hrc hrs hini hli hdy hR rfl hsum hst hsel (fun r0 w hq _ => by obtain ⟨rfl, rfl⟩ := hq; exact k)
theorem J_cVi3 {index maxLy : Nat} {y : MethodName} {bytes : ByteArray} {rety : Option FieldType} {Ry : Room} {r : Int32} {v1 v2 v3 : Value} {b ci N : Nat} {fs : List Value} {T : u_T} {w1 : jW} (hd : decode cc pc = .ok (.invokevirtual index, 3)) (hM : JMet l cl Ns (.code y bytes maxLy rety :: Ts) y Ry (.ref b :: [v1, v2, v3]) ws (fun v w => v = some (.int r) ∧ w = w1)) (he : ws[b]? = some (.inr (ci, fs))) (hc : cl[ci]? = some (y.cls, T, N)) (hcode : Cond.code y bytes maxLy rety ∈ Ts) (hgood : ∀ w ∈ Ts, (w.onTables && w.keeps) = true ∨ ∃ ty, w = .arrayClass ty) (hrc : Ry.cells = 0) (hrs : Ry.slots = 0) (hini : Cond.initialized y.cls ∈ Ts) (hli : Cond.methodLink own index y ∈ Ts) (hdy : y.cls ≠ "java/lang/invoke/MethodHandle" ∧ y.cls ≠ "java/lang/invoke/VarHandle" ∧ (parseMethodDescriptor y.desc).map (fun d => d.parameters.length) = some 3) (hR : Ry.frames + 1 ≤ R.frames ∧ 8 + (maxLy + 11) + Ry.locals ≤ R.locals) (hsum : (st.map fun v => v.category).sum ≤ 8) (hst : Cond.instanceMethod y ∈ Ts) (hsel : Cond.selects y.cls y y ∈ Ts)
    (k : JW l cl Ns Ts own cc nL ret R (pc + 3) ls (.int r :: st) w1 Q) : JW l cl Ns Ts own cc nL ret R pc ls (v3 :: v2 :: v1 :: .ref b :: st) ws Q :=
  J_callV (As := [v1, v2, v3]) (rest := st) hd hM he hc hcode hgood hrc hrs hini hli hdy hR rfl hsum hst hsel (fun r0 w hq _ => by obtain ⟨rfl, rfl⟩ := hq; exact k)
theorem J_cVv3 {index maxLy : Nat} {y : MethodName} {bytes : ByteArray} {rety : Option FieldType} {Ry : Room} {v1 v2 v3 : Value} {b ci N : Nat} {fs : List Value} {T : u_T} {w1 : jW} (hd : decode cc pc = .ok (.invokevirtual index, 3)) (hM : JMet l cl Ns (.code y bytes maxLy rety :: Ts) y Ry (.ref b :: [v1, v2, v3]) ws (fun v w => v = none ∧ w = w1)) (he : ws[b]? = some (.inr (ci, fs))) (hc : cl[ci]? = some (y.cls, T, N)) (hcode : Cond.code y bytes maxLy rety ∈ Ts) (hgood : ∀ w ∈ Ts, (w.onTables && w.keeps) = true ∨ ∃ ty, w = .arrayClass ty) (hrc : Ry.cells = 0) (hrs : Ry.slots = 0) (hini : Cond.initialized y.cls ∈ Ts) (hli : Cond.methodLink own index y ∈ Ts) (hdy : y.cls ≠ "java/lang/invoke/MethodHandle" ∧ y.cls ≠ "java/lang/invoke/VarHandle" ∧ (parseMethodDescriptor y.desc).map (fun d => d.parameters.length) = some 3) (hR : Ry.frames + 1 ≤ R.frames ∧ 8 + (maxLy + 11) + Ry.locals ≤ R.locals) (hsum : (st.map fun v => v.category).sum ≤ 8) (hst : Cond.instanceMethod y ∈ Ts) (hsel : Cond.selects y.cls y y ∈ Ts)
    (k : JW l cl Ns Ts own cc nL ret R (pc + 3) ls st w1 Q) : JW l cl Ns Ts own cc nL ret R pc ls (v3 :: v2 :: v1 :: .ref b :: st) ws Q :=
  J_callV (As := [v1, v2, v3]) (rest := st) hd hM he hc hcode hgood hrc hrs hini hli hdy hR rfl hsum hst hsel (fun r0 w hq _ => by obtain ⟨rfl, rfl⟩ := hq; exact k)
theorem J_cVi0N {index maxLy : Nat} {y : MethodName} {bytes : ByteArray} {rety : Option FieldType} {Ry : Room} {host : String} {r : Int32} {b ci N : Nat} {fs : List Value} {T : u_T} {w1 : jW} (hd : decode cc pc = .ok (.invokevirtual index, 3)) (hM : JMet l cl Ns (.code y bytes maxLy rety :: Ts) y Ry (.ref b :: []) ws (fun v w => v = some (.int r) ∧ w = w1)) (he : ws[b]? = some (.inr (ci, fs))) (hc : cl[ci]? = some (y.cls, T, N)) (hcode : Cond.code y bytes maxLy rety ∈ Ts) (hgood : ∀ w ∈ Ts, (w.onTables && w.keeps) = true ∨ ∃ ty, w = .arrayClass ty) (hrc : Ry.cells = 0) (hrs : Ry.slots = 0) (hini : Cond.initialized y.cls ∈ Ts) (hli : ((own, index, y, host) : String × Nat × MethodName × String) ∈ Ns) (hdy : y.cls ≠ "java/lang/invoke/MethodHandle" ∧ y.cls ≠ "java/lang/invoke/VarHandle" ∧ (parseMethodDescriptor y.desc).map (fun d => d.parameters.length) = some 0) (hR : Ry.frames + 1 ≤ R.frames ∧ 8 + (maxLy + 11) + Ry.locals ≤ R.locals) (hsum : (st.map fun v => v.category).sum ≤ 8) (hst : Cond.instanceMethod y ∈ Ts) (hsel : Cond.selects y.cls y y ∈ Ts)
    (k : JW l cl Ns Ts own cc nL ret R (pc + 3) ls (.int r :: st) w1 Q) : JW l cl Ns Ts own cc nL ret R pc ls (.ref b :: st) ws Q :=
  J_callVN (As := []) (rest := st) hd hM he hc hcode hgood hrc hrs hini hli hdy hR rfl hsum hst hsel (fun r0 w hq _ => by obtain ⟨rfl, rfl⟩ := hq; exact k)
theorem J_cVv0N {index maxLy : Nat} {y : MethodName} {bytes : ByteArray} {rety : Option FieldType} {Ry : Room} {host : String} {b ci N : Nat} {fs : List Value} {T : u_T} {w1 : jW} (hd : decode cc pc = .ok (.invokevirtual index, 3)) (hM : JMet l cl Ns (.code y bytes maxLy rety :: Ts) y Ry (.ref b :: []) ws (fun v w => v = none ∧ w = w1)) (he : ws[b]? = some (.inr (ci, fs))) (hc : cl[ci]? = some (y.cls, T, N)) (hcode : Cond.code y bytes maxLy rety ∈ Ts) (hgood : ∀ w ∈ Ts, (w.onTables && w.keeps) = true ∨ ∃ ty, w = .arrayClass ty) (hrc : Ry.cells = 0) (hrs : Ry.slots = 0) (hini : Cond.initialized y.cls ∈ Ts) (hli : ((own, index, y, host) : String × Nat × MethodName × String) ∈ Ns) (hdy : y.cls ≠ "java/lang/invoke/MethodHandle" ∧ y.cls ≠ "java/lang/invoke/VarHandle" ∧ (parseMethodDescriptor y.desc).map (fun d => d.parameters.length) = some 0) (hR : Ry.frames + 1 ≤ R.frames ∧ 8 + (maxLy + 11) + Ry.locals ≤ R.locals) (hsum : (st.map fun v => v.category).sum ≤ 8) (hst : Cond.instanceMethod y ∈ Ts) (hsel : Cond.selects y.cls y y ∈ Ts)
    (k : JW l cl Ns Ts own cc nL ret R (pc + 3) ls st w1 Q) : JW l cl Ns Ts own cc nL ret R pc ls (.ref b :: st) ws Q :=
  J_callVN (As := []) (rest := st) hd hM he hc hcode hgood hrc hrs hini hli hdy hR rfl hsum hst hsel (fun r0 w hq _ => by obtain ⟨rfl, rfl⟩ := hq; exact k)
theorem J_cVi1N {index maxLy : Nat} {y : MethodName} {bytes : ByteArray} {rety : Option FieldType} {Ry : Room} {host : String} {r : Int32} {v1 : Value} {b ci N : Nat} {fs : List Value} {T : u_T} {w1 : jW} (hd : decode cc pc = .ok (.invokevirtual index, 3)) (hM : JMet l cl Ns (.code y bytes maxLy rety :: Ts) y Ry (.ref b :: [v1]) ws (fun v w => v = some (.int r) ∧ w = w1)) (he : ws[b]? = some (.inr (ci, fs))) (hc : cl[ci]? = some (y.cls, T, N)) (hcode : Cond.code y bytes maxLy rety ∈ Ts) (hgood : ∀ w ∈ Ts, (w.onTables && w.keeps) = true ∨ ∃ ty, w = .arrayClass ty) (hrc : Ry.cells = 0) (hrs : Ry.slots = 0) (hini : Cond.initialized y.cls ∈ Ts) (hli : ((own, index, y, host) : String × Nat × MethodName × String) ∈ Ns) (hdy : y.cls ≠ "java/lang/invoke/MethodHandle" ∧ y.cls ≠ "java/lang/invoke/VarHandle" ∧ (parseMethodDescriptor y.desc).map (fun d => d.parameters.length) = some 1) (hR : Ry.frames + 1 ≤ R.frames ∧ 8 + (maxLy + 11) + Ry.locals ≤ R.locals) (hsum : (st.map fun v => v.category).sum ≤ 8) (hst : Cond.instanceMethod y ∈ Ts) (hsel : Cond.selects y.cls y y ∈ Ts)
    (k : JW l cl Ns Ts own cc nL ret R (pc + 3) ls (.int r :: st) w1 Q) : JW l cl Ns Ts own cc nL ret R pc ls (v1 :: .ref b :: st) ws Q :=
  J_callVN (As := [v1]) (rest := st) hd hM he hc hcode hgood hrc hrs hini hli hdy hR rfl hsum hst hsel (fun r0 w hq _ => by obtain ⟨rfl, rfl⟩ := hq; exact k)
theorem J_cVv1N {index maxLy : Nat} {y : MethodName} {bytes : ByteArray} {rety : Option FieldType} {Ry : Room} {host : String} {v1 : Value} {b ci N : Nat} {fs : List Value} {T : u_T} {w1 : jW} (hd : decode cc pc = .ok (.invokevirtual index, 3)) (hM : JMet l cl Ns (.code y bytes maxLy rety :: Ts) y Ry (.ref b :: [v1]) ws (fun v w => v = none ∧ w = w1)) (he : ws[b]? = some (.inr (ci, fs))) (hc : cl[ci]? = some (y.cls, T, N)) (hcode : Cond.code y bytes maxLy rety ∈ Ts) (hgood : ∀ w ∈ Ts, (w.onTables && w.keeps) = true ∨ ∃ ty, w = .arrayClass ty) (hrc : Ry.cells = 0) (hrs : Ry.slots = 0) (hini : Cond.initialized y.cls ∈ Ts) (hli : ((own, index, y, host) : String × Nat × MethodName × String) ∈ Ns) (hdy : y.cls ≠ "java/lang/invoke/MethodHandle" ∧ y.cls ≠ "java/lang/invoke/VarHandle" ∧ (parseMethodDescriptor y.desc).map (fun d => d.parameters.length) = some 1) (hR : Ry.frames + 1 ≤ R.frames ∧ 8 + (maxLy + 11) + Ry.locals ≤ R.locals) (hsum : (st.map fun v => v.category).sum ≤ 8) (hst : Cond.instanceMethod y ∈ Ts) (hsel : Cond.selects y.cls y y ∈ Ts)
    (k : JW l cl Ns Ts own cc nL ret R (pc + 3) ls st w1 Q) : JW l cl Ns Ts own cc nL ret R pc ls (v1 :: .ref b :: st) ws Q :=
  J_callVN (As := [v1]) (rest := st) hd hM he hc hcode hgood hrc hrs hini hli hdy hR rfl hsum hst hsel (fun r0 w hq _ => by obtain ⟨rfl, rfl⟩ := hq; exact k)
theorem J_cVi2N {index maxLy : Nat} {y : MethodName} {bytes : ByteArray} {rety : Option FieldType} {Ry : Room} {host : String} {r : Int32} {v1 v2 : Value} {b ci N : Nat} {fs : List Value} {T : u_T} {w1 : jW} (hd : decode cc pc = .ok (.invokevirtual index, 3)) (hM : JMet l cl Ns (.code y bytes maxLy rety :: Ts) y Ry (.ref b :: [v1, v2]) ws (fun v w => v = some (.int r) ∧ w = w1)) (he : ws[b]? = some (.inr (ci, fs))) (hc : cl[ci]? = some (y.cls, T, N)) (hcode : Cond.code y bytes maxLy rety ∈ Ts) (hgood : ∀ w ∈ Ts, (w.onTables && w.keeps) = true ∨ ∃ ty, w = .arrayClass ty) (hrc : Ry.cells = 0) (hrs : Ry.slots = 0) (hini : Cond.initialized y.cls ∈ Ts) (hli : ((own, index, y, host) : String × Nat × MethodName × String) ∈ Ns) (hdy : y.cls ≠ "java/lang/invoke/MethodHandle" ∧ y.cls ≠ "java/lang/invoke/VarHandle" ∧ (parseMethodDescriptor y.desc).map (fun d => d.parameters.length) = some 2) (hR : Ry.frames + 1 ≤ R.frames ∧ 8 + (maxLy + 11) + Ry.locals ≤ R.locals) (hsum : (st.map fun v => v.category).sum ≤ 8) (hst : Cond.instanceMethod y ∈ Ts) (hsel : Cond.selects y.cls y y ∈ Ts)
    (k : JW l cl Ns Ts own cc nL ret R (pc + 3) ls (.int r :: st) w1 Q) : JW l cl Ns Ts own cc nL ret R pc ls (v2 :: v1 :: .ref b :: st) ws Q :=
  J_callVN (As := [v1, v2]) (rest := st) hd hM he hc hcode hgood hrc hrs hini hli hdy hR rfl hsum hst hsel (fun r0 w hq _ => by obtain ⟨rfl, rfl⟩ := hq; exact k)
theorem J_cVv2N {index maxLy : Nat} {y : MethodName} {bytes : ByteArray} {rety : Option FieldType} {Ry : Room} {host : String} {v1 v2 : Value} {b ci N : Nat} {fs : List Value} {T : u_T} {w1 : jW} (hd : decode cc pc = .ok (.invokevirtual index, 3)) (hM : JMet l cl Ns (.code y bytes maxLy rety :: Ts) y Ry (.ref b :: [v1, v2]) ws (fun v w => v = none ∧ w = w1)) (he : ws[b]? = some (.inr (ci, fs))) (hc : cl[ci]? = some (y.cls, T, N)) (hcode : Cond.code y bytes maxLy rety ∈ Ts) (hgood : ∀ w ∈ Ts, (w.onTables && w.keeps) = true ∨ ∃ ty, w = .arrayClass ty) (hrc : Ry.cells = 0) (hrs : Ry.slots = 0) (hini : Cond.initialized y.cls ∈ Ts) (hli : ((own, index, y, host) : String × Nat × MethodName × String) ∈ Ns) (hdy : y.cls ≠ "java/lang/invoke/MethodHandle" ∧ y.cls ≠ "java/lang/invoke/VarHandle" ∧ (parseMethodDescriptor y.desc).map (fun d => d.parameters.length) = some 2) (hR : Ry.frames + 1 ≤ R.frames ∧ 8 + (maxLy + 11) + Ry.locals ≤ R.locals) (hsum : (st.map fun v => v.category).sum ≤ 8) (hst : Cond.instanceMethod y ∈ Ts) (hsel : Cond.selects y.cls y y ∈ Ts)
    (k : JW l cl Ns Ts own cc nL ret R (pc + 3) ls st w1 Q) : JW l cl Ns Ts own cc nL ret R pc ls (v2 :: v1 :: .ref b :: st) ws Q :=
  J_callVN (As := [v1, v2]) (rest := st) hd hM he hc hcode hgood hrc hrs hini hli hdy hR rfl hsum hst hsel (fun r0 w hq _ => by obtain ⟨rfl, rfl⟩ := hq; exact k)
theorem J_cVi3N {index maxLy : Nat} {y : MethodName} {bytes : ByteArray} {rety : Option FieldType} {Ry : Room} {host : String} {r : Int32} {v1 v2 v3 : Value} {b ci N : Nat} {fs : List Value} {T : u_T} {w1 : jW} (hd : decode cc pc = .ok (.invokevirtual index, 3)) (hM : JMet l cl Ns (.code y bytes maxLy rety :: Ts) y Ry (.ref b :: [v1, v2, v3]) ws (fun v w => v = some (.int r) ∧ w = w1)) (he : ws[b]? = some (.inr (ci, fs))) (hc : cl[ci]? = some (y.cls, T, N)) (hcode : Cond.code y bytes maxLy rety ∈ Ts) (hgood : ∀ w ∈ Ts, (w.onTables && w.keeps) = true ∨ ∃ ty, w = .arrayClass ty) (hrc : Ry.cells = 0) (hrs : Ry.slots = 0) (hini : Cond.initialized y.cls ∈ Ts) (hli : ((own, index, y, host) : String × Nat × MethodName × String) ∈ Ns) (hdy : y.cls ≠ "java/lang/invoke/MethodHandle" ∧ y.cls ≠ "java/lang/invoke/VarHandle" ∧ (parseMethodDescriptor y.desc).map (fun d => d.parameters.length) = some 3) (hR : Ry.frames + 1 ≤ R.frames ∧ 8 + (maxLy + 11) + Ry.locals ≤ R.locals) (hsum : (st.map fun v => v.category).sum ≤ 8) (hst : Cond.instanceMethod y ∈ Ts) (hsel : Cond.selects y.cls y y ∈ Ts)
    (k : JW l cl Ns Ts own cc nL ret R (pc + 3) ls (.int r :: st) w1 Q) : JW l cl Ns Ts own cc nL ret R pc ls (v3 :: v2 :: v1 :: .ref b :: st) ws Q :=
  J_callVN (As := [v1, v2, v3]) (rest := st) hd hM he hc hcode hgood hrc hrs hini hli hdy hR rfl hsum hst hsel (fun r0 w hq _ => by obtain ⟨rfl, rfl⟩ := hq; exact k)
theorem J_cVv3N {index maxLy : Nat} {y : MethodName} {bytes : ByteArray} {rety : Option FieldType} {Ry : Room} {host : String} {v1 v2 v3 : Value} {b ci N : Nat} {fs : List Value} {T : u_T} {w1 : jW} (hd : decode cc pc = .ok (.invokevirtual index, 3)) (hM : JMet l cl Ns (.code y bytes maxLy rety :: Ts) y Ry (.ref b :: [v1, v2, v3]) ws (fun v w => v = none ∧ w = w1)) (he : ws[b]? = some (.inr (ci, fs))) (hc : cl[ci]? = some (y.cls, T, N)) (hcode : Cond.code y bytes maxLy rety ∈ Ts) (hgood : ∀ w ∈ Ts, (w.onTables && w.keeps) = true ∨ ∃ ty, w = .arrayClass ty) (hrc : Ry.cells = 0) (hrs : Ry.slots = 0) (hini : Cond.initialized y.cls ∈ Ts) (hli : ((own, index, y, host) : String × Nat × MethodName × String) ∈ Ns) (hdy : y.cls ≠ "java/lang/invoke/MethodHandle" ∧ y.cls ≠ "java/lang/invoke/VarHandle" ∧ (parseMethodDescriptor y.desc).map (fun d => d.parameters.length) = some 3) (hR : Ry.frames + 1 ≤ R.frames ∧ 8 + (maxLy + 11) + Ry.locals ≤ R.locals) (hsum : (st.map fun v => v.category).sum ≤ 8) (hst : Cond.instanceMethod y ∈ Ts) (hsel : Cond.selects y.cls y y ∈ Ts)
    (k : JW l cl Ns Ts own cc nL ret R (pc + 3) ls st w1 Q) : JW l cl Ns Ts own cc nL ret R pc ls (v3 :: v2 :: v1 :: .ref b :: st) ws Q :=
  J_callVN (As := [v1, v2, v3]) (rest := st) hd hM he hc hcode hgood hrc hrs hini hli hdy hR rfl hsum hst hsel (fun r0 w hq _ => by obtain ⟨rfl, rfl⟩ := hq; exact k)
theorem J_topi {x y : Int32} (h : x = y) (k : JW l cl Ns Ts own cc nL ret R pc ls (.int y :: st) ws Q) : JW l cl Ns Ts own cc nL ret R pc ls (.int x :: st) ws Q := by subst h; exact k
theorem J_tabIn {dflt lo hi : Int} {offs : Array Int} {len : Nat} {x : Int32} (k : Int32) {off : Int} {tgt : Nat} (hd : decode cc pc = .ok (.tableswitch dflt lo hi offs, len)) (hk : x = k) (h1 : ¬ k.toInt < lo) (h2 : ¬ hi < k.toInt) (ho : offs[(k.toInt - lo).toNat]? = some off) (ht : (pc : Int) + off = (tgt : Int)) (k : JW l cl Ns Ts own cc nL ret R tgt ls st ws Q) : JW l cl Ns Ts own cc nL ret R pc ls (.int x :: st) ws Q := by subst hk; exact J_tableIn hd h1 h2 ho ht k
end JR
/-! mirrors: guards, steps -/
abbrev jS : Type := Nat → Int32
abbrev jB : Type := Nat → Nat → Int32
def jF : Nat := 4096
def jin (i : Int32) (n : Nat) : Bool := decide (0 ≤ i.toInt) && decide (i.toInt < (n : Int))
theorem jin_in {i : Int32} {n : Nat} (h : jin i n = true) : vp_in i n := by
  rw [vp_in_iff]
  simpa [jin] using h
def jz (i : Int32) : Bool := decide (i = 0) || decide (i = 1)
theorem jz_nar {i : Int32} (h : jz i = true) : narrow .boolean (.int i) = .int i := by
  have h : i = 0 ∨ i = 1 := by simpa [jz] using h
  rcases h with rfl | rfl <;> decide
def jg {α : Type} (b : Bool) (x : Option α) : Option α := match b with
  | true => x
  | false => none
theorem jg_some {α : Type} {b : Bool} {x : Option α} {r : α} (h : jg b x = some r) : b = true ∧ x = some r := by
  cases b with
  | true => exact ⟨rfl, h⟩
  | false => cases h
def jb {α β : Type} (x : Option α) (k : α → Option β) : Option β := match x with
  | some v => k v
  | none => none
theorem jb_some {α β : Type} {x : Option α} {k : α → Option β} {r : β} (h : jb x k = some r) : ∃ v, x = some v ∧ k v = some r := by
  cases x with
  | some v => exact ⟨v, rfl, h⟩
  | none => cases h
def jb2 {β : Type} (x : Option (jS × jB)) (k : jS → jB → Option β) : Option β := match x with
  | some (s, a) => k s a
  | none => none
theorem jb2_some {β : Type} {x : Option (jS × jB)} {k : jS → jB → Option β} {r : β} (h : jb2 x k = some r) : ∃ s a, x = some (s, a) ∧ k s a = some r := by
  cases x with
  | some v => exact ⟨v.1, v.2, rfl, h⟩
  | none => cases h
def jb3 {β : Type} (x : Option (Int32 × jS × jB)) (k : Int32 → jS → jB → Option β) : Option β := match x with
  | some (v, s, a) => k v s a
  | none => none
theorem jb3_some {β : Type} {x : Option (Int32 × jS × jB)} {k : Int32 → jS → jB → Option β} {r : β} (h : jb3 x k = some r) : ∃ v s a, x = some (v, s, a) ∧ k v s a = some r := by
  cases x with
  | some v => exact ⟨v.1, v.2.1, v.2.2, rfl, h⟩
  | none => cases h
theorem j_ifp {α : Type} {c : Prop} [Decidable c] {x y : Option α} {r : α} (hc : c) (h : (if c then x else y) = some r) : x = some r := by rwa [if_pos hc] at h
theorem j_ifn {α : Type} {c : Prop} [Decidable c] {x y : Option α} {r : α} (hc : ¬ c) (h : (if c then x else y) = some r) : y = some r := by rwa [if_neg hc] at h
theorem j_neT {x : Int32} (k : Int32) (h : ¬ x = k) : x.toInt ≠ k.toInt := fun q => h (Int32.toInt_inj.mp q)
theorem j_out2 {x : Int32} (c0 : ¬ x = 0) (c1 : ¬ x = 1) : x.toInt < 0 ∨ (1 : Int) < x.toInt := by
  have h0 : x.toInt ≠ 0 := j_neT 0 c0
  have h1 : x.toInt ≠ 1 := j_neT 1 c1
  omega
theorem j_out3 {x : Int32} (c0 : ¬ x = 0) (c1 : ¬ x = 1) (c2 : ¬ x = 2) : x.toInt < 0 ∨ (2 : Int) < x.toInt := by
  have h0 : x.toInt ≠ 0 := j_neT 0 c0
  have h1 : x.toInt ≠ 1 := j_neT 1 c1
  have h2 : x.toInt ≠ 2 := j_neT 2 c2
  omega
theorem j_out4 {x : Int32} (c0 : ¬ x = 0) (c1 : ¬ x = 1) (c2 : ¬ x = 2) (c3 : ¬ x = 3) : x.toInt < 0 ∨ (3 : Int) < x.toInt := by
  have h0 : x.toInt ≠ 0 := j_neT 0 c0
  have h1 : x.toInt ≠ 1 := j_neT 1 c1
  have h2 : x.toInt ≠ 2 := j_neT 2 c2
  have h3 : x.toInt ≠ 3 := j_neT 3 c3
  omega
theorem j_out5 {x : Int32} (c0 : ¬ x = 0) (c1 : ¬ x = 1) (c2 : ¬ x = 2) (c3 : ¬ x = 3) (c4 : ¬ x = 4) : x.toInt < 0 ∨ (4 : Int) < x.toInt := by
  have h0 : x.toInt ≠ 0 := j_neT 0 c0
  have h1 : x.toInt ≠ 1 := j_neT 1 c1
  have h2 : x.toInt ≠ 2 := j_neT 2 c2
  have h3 : x.toInt ≠ 3 := j_neT 3 c3
  have h4 : x.toInt ≠ 4 := j_neT 4 c4
  omega
theorem j_out6 {x : Int32} (c0 : ¬ x = 0) (c1 : ¬ x = 1) (c2 : ¬ x = 2) (c3 : ¬ x = 3) (c4 : ¬ x = 4) (c5 : ¬ x = 5) : x.toInt < 0 ∨ (5 : Int) < x.toInt := by
  have h0 : x.toInt ≠ 0 := j_neT 0 c0
  have h1 : x.toInt ≠ 1 := j_neT 1 c1
  have h2 : x.toInt ≠ 2 := j_neT 2 c2
  have h3 : x.toInt ≠ 3 := j_neT 3 c3
  have h4 : x.toInt ≠ 4 := j_neT 4 c4
  have h5 : x.toInt ≠ 5 := j_neT 5 c5
  omega
theorem j_out7 {x : Int32} (c0 : ¬ x = 0) (c1 : ¬ x = 1) (c2 : ¬ x = 2) (c3 : ¬ x = 3) (c4 : ¬ x = 4) (c5 : ¬ x = 5) (c6 : ¬ x = 6) : x.toInt < 0 ∨ (6 : Int) < x.toInt := by
  have h0 : x.toInt ≠ 0 := j_neT 0 c0
  have h1 : x.toInt ≠ 1 := j_neT 1 c1
  have h2 : x.toInt ≠ 2 := j_neT 2 c2
  have h3 : x.toInt ≠ 3 := j_neT 3 c3
  have h4 : x.toInt ≠ 4 := j_neT 4 c4
  have h5 : x.toInt ≠ 5 := j_neT 5 c5
  have h6 : x.toInt ≠ 6 := j_neT 6 c6
  omega
theorem j_out8 {x : Int32} (c0 : ¬ x = 0) (c1 : ¬ x = 1) (c2 : ¬ x = 2) (c3 : ¬ x = 3) (c4 : ¬ x = 4) (c5 : ¬ x = 5) (c6 : ¬ x = 6) (c7 : ¬ x = 7) : x.toInt < 0 ∨ (7 : Int) < x.toInt := by
  have h0 : x.toInt ≠ 0 := j_neT 0 c0
  have h1 : x.toInt ≠ 1 := j_neT 1 c1
  have h2 : x.toInt ≠ 2 := j_neT 2 c2
  have h3 : x.toInt ≠ 3 := j_neT 3 c3
  have h4 : x.toInt ≠ 4 := j_neT 4 c4
  have h5 : x.toInt ≠ 5 := j_neT 5 c5
  have h6 : x.toInt ≠ 6 := j_neT 6 c6
  have h7 : x.toInt ≠ 7 := j_neT 7 c7
  omega
theorem j_out17 {x : Int32} (c0 : ¬ x = 0) (c1 : ¬ x = 1) (c2 : ¬ x = 2) (c3 : ¬ x = 3) (c4 : ¬ x = 4) (c5 : ¬ x = 5) (c6 : ¬ x = 6) (c7 : ¬ x = 7) (c8 : ¬ x = 8) (c9 : ¬ x = 9) (c10 : ¬ x = 10) (c11 : ¬ x = 11) (c12 : ¬ x = 12) (c13 : ¬ x = 13) (c14 : ¬ x = 14) (c15 : ¬ x = 15) (c16 : ¬ x = 16) : x.toInt < 0 ∨ (16 : Int) < x.toInt := by
  have h0 : x.toInt ≠ 0 := j_neT 0 c0
  have h1 : x.toInt ≠ 1 := j_neT 1 c1
  have h2 : x.toInt ≠ 2 := j_neT 2 c2
  have h3 : x.toInt ≠ 3 := j_neT 3 c3
  have h4 : x.toInt ≠ 4 := j_neT 4 c4
  have h5 : x.toInt ≠ 5 := j_neT 5 c5
  have h6 : x.toInt ≠ 6 := j_neT 6 c6
  have h7 : x.toInt ≠ 7 := j_neT 7 c7
  have h8 : x.toInt ≠ 8 := j_neT 8 c8
  have h9 : x.toInt ≠ 9 := j_neT 9 c9
  have h10 : x.toInt ≠ 10 := j_neT 10 c10
  have h11 : x.toInt ≠ 11 := j_neT 11 c11
  have h12 : x.toInt ≠ 12 := j_neT 12 c12
  have h13 : x.toInt ≠ 13 := j_neT 13 c13
  have h14 : x.toInt ≠ 14 := j_neT 14 c14
  have h15 : x.toInt ≠ 15 := j_neT 15 c15
  have h16 : x.toInt ≠ 16 := j_neT 16 c16
  omega

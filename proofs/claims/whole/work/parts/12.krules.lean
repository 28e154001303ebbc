/-! K: a frame over a world of cells with their addresses; it may make cells. Z: what is wanted at the end; E: what else is known of the start -/
abbrev kZt : Type := State → Array Value → List Frame → (Nat → Prop) → State → Prop
def kC (cl : List vw_C) (Ns : jNt) (Ts : List Cond) (own nm : String) (cc : ByteArray) (nL : Nat) (ret : Option FieldType) (D : va_G) (cA : Nat → ClassId) (E : State → (Nat → Prop) → Prop) (ls : List (Option Value)) (ws : va_W) (p : Program) (s : State) (m : MethodId) (args : Array Value) (meth : Method) (c : Code) (H : Heap) (locs : List Loc) (A : Nat → Prop) (lsA : Array Slot) : Prop :=
  p.tables.exec = Jvm.exec ∧ c.code = cc ∧ meth.sig.returnType = ret ∧ c.maxLocals = nL ∧ meth.locks = false ∧ meth.name = nm ∧ s.vm.findClass own = some m.cls ∧ (∀ w ∈ Ts, w.before args s = true) ∧ jN Ns s ∧ va_K D cl (jT cA) s ∧ va_P D cl ws H ∧ va_D A ws ∧ va_S A s.heap H locs ∧ (∀ q, s.heap.size ≤ q → A q) ∧ E s A ∧ lv_has lsA nL (jl id 0 ls)
def KW (l : Launch) (cl : List vw_C) (Ns : jNt) (Ts : List Cond) (own nm : String) (cc : ByteArray) (nL : Nat) (ret : Option FieldType) (R : Room) (D : va_G) (cA : Nat → ClassId) (E : State → (Nat → Prop) → Prop) (Z : kZt) (pc : Nat) (ls : List (Option Value)) (st : List Value) (ws : va_W) (nc ns : Nat) : Prop :=
  ∀ (p : Program) (e : Env) (s : State) (m : MethodId) (args : Array Value) (below : List Frame) (meth : Method) (c : Code) (H : Heap) (locs : List Loc) (A : Nat → Prop) (lsA : Array Slot),
    kC cl Ns Ts own nm cc nL ret D cA E ls ws p s m args meth c H locs A lsA → W p l e R s m args below meth c H locs nc ns (Z s args below A) (F0 m pc lsA st)
def kQ (cl : List vw_C) (D : va_G) (cA : Nat → ClassId) (A : Nat → Prop) (Q : va_W → Prop) : Array Value → State → Outcome → State → Prop :=
  fun _ st oc t => (∃ w : va_W, oc = .returned none ∧ Q w ∧ va_P D cl w t.heap ∧ va_K D cl (jT cA) t ∧ va_D A w) ∧ va_F A st t
def kZ (cl : List vw_C) (D : va_G) (cA : Nat → ClassId) (Q : va_W → Prop) (mc ms : Nat) : kZt := fun s args below A => MQ below (kQ cl D cA A Q) args s mc ms A
/-- a constructor's contract -/
def KMet (l : Launch) (cl : List vw_C) (Ns : jNt) (Tw : List Cond) (y : MethodName) (R : Room) (D : va_G) (cA : Nat → ClassId) (av : List Value) (ws : va_W) (Q : va_W → Prop) (mc ms : Nat) : Prop :=
  ∀ sz : Nat, Met l y Tw R (va_Pc av (fun U => U.heap.size = sz ∧ jN Ns U ∧ va_P D cl ws U.heap ∧ va_K D cl (jT cA) U ∧ va_D (fun _ => True) ws)) (kQ cl D cA (va_A ws sz) Q) mc ms (va_A ws sz)
theorem jv_id (v : Value) : jv id v = v := by cases v <;> rfl
theorem jv_id' (vs : List Value) : vs.map (jv id) = vs := by
  induction vs with
  | nil => rfl
  | cons v t ih => rw [List.map_cons, ih, jv_id]
theorem K_enter {l : Launch} {cl : List vw_C} {Ns : jNt} {Ts : List Cond} {y : MethodName} {cc : ByteArray} {nL : Nat} {R : Room} {D : va_G} {cA : Nat → ClassId} {av : List Value} {ws : va_W} {Q : va_W → Prop} {mc ms : Nat} (hy : plainName y.cls = true) (hin : y.name = "<init>") (hc0 : av.all (fun v => v.category == 1) = true) (hn : av.length ≤ nL)
    (k : KW l cl Ns Ts y.cls "<init>" cc nL none R D cA (fun _ _ => True) (kZ cl D cA Q mc ms) 0 (av.map some ++ List.replicate (nL - av.length) none) [] ws 0 0) : KMet l cl Ns (.code y cc nL none :: Ts) y R D cA av ws Q mc ms := by
  have hc : ∀ v ∈ av, v.category = 1 := fun v hv => by simpa using List.all_eq_true.mp hc0 v hv
  intro sz
  refine Met.ofW (cc := cc) (maxL := nL) (ret := none) hy rfl ?_
  intro p e s m args below meth c s₁ B hml hv
  obtain ⟨rfl, hsz, hN, hP, hK, hD⟩ := hv
  subst hsz
  have hts := atoms_spec (ws := .code y cc nL none :: Ts) B.pre
  have hown : s.vm.findClass y.cls = some m.cls := findClass_of_methodNamed B.named
  have hnm : meth.name = "<init>" := (name_of_methodNamed B.named B.method).1.trans hin
  have hl := lv_entry (av.map (jv id)) (n := nL) (by rw [j_sl id av hc]; exact hn)
  rw [lg_entry_eq]
  rw [jv_id'] at hl
  exact k p e s m _ below meth c s.heap [] (va_A ws s.heap.size) _ ⟨B.exec, B.bytes, B.returns, hml, B.notSynchronized, hnm, hown, fun w hw => hts w (List.mem_cons_of_mem _ hw), hN, hK, hP, hD.self, va_S.rf, fun q h => Or.inr h, trivial, ⟨hl.1, hl.2.1, fun q hq => hl.2.2 q (by have := jl_entry av 0 _ hc hq; rwa [jv_id'] at this)⟩⟩
section KR
variable {l : Launch} {cl : List vw_C} {Ns : jNt} {Ts : List Cond} {own nm : String} {cc : ByteArray} {nL : Nat} {ret : Option FieldType} {R : Room} {D : va_G} {cA : Nat → ClassId} {E : State → (Nat → Prop) → Prop} {Z : kZt} {pc : Nat} {ls : List (Option Value)} {st : List Value} {ws : va_W} {nc ns : Nat}
theorem K_eq {pc' : Nat} {ls' : List (Option Value)} {st' : List Value} {ws' : va_W} (h1 : pc = pc') (h2 : ls = ls') (h3 : st = st') (h4 : ws = ws') (k : KW l cl Ns Ts own nm cc nL ret R D cA E Z pc' ls' st' ws' nc ns) : KW l cl Ns Ts own nm cc nL ret R D cA E Z pc ls st ws nc ns := by
  subst h1; subst h2; subst h3; subst h4; exact k
theorem K_widen {nc' ns' : Nat} (h1 : nc ≤ nc') (h2 : ns ≤ ns') (k : KW l cl Ns Ts own nm cc nL ret R D cA E Z pc ls st ws nc' ns') : KW l cl Ns Ts own nm cc nL ret R D cA E Z pc ls st ws nc ns :=
  fun p e s m args below meth c H locs A lsA X => W.widen h1 h2 (k p e s m args below meth c H locs A lsA X)
theorem K_iconst {n : Int} {v : Int32} (hd : decode cc pc = .ok (.iconst n, 1)) (hv : Int32.ofInt n = v) (k : KW l cl Ns Ts own nm cc nL ret R D cA E Z (pc + 1) ls (.int v :: st) ws nc ns) : KW l cl Ns Ts own nm cc nL ret R D cA E Z pc ls st ws nc ns := by
  intro p e s m args below meth c H locs A lsA X
  obtain ⟨hx, hb, hr, hml, hlk, hnm, hown, hts, hN, hK, hP, hD, hS, hA, hE, hl⟩ := id X
  exact lv_iconst hx hb hd hv (k p e s m args below meth c H locs A lsA X)
theorem K_bipush {n : Int} {v : Int32} (hd : decode cc pc = .ok (.bipush n, 2)) (hv : (Int8.ofInt n).toInt32 = v) (k : KW l cl Ns Ts own nm cc nL ret R D cA E Z (pc + 2) ls (.int v :: st) ws nc ns) : KW l cl Ns Ts own nm cc nL ret R D cA E Z pc ls st ws nc ns := by
  intro p e s m args below meth c H locs A lsA X
  obtain ⟨hx, hb, hr, hml, hlk, hnm, hown, hts, hN, hK, hP, hD, hS, hA, hE, hl⟩ := id X
  exact lv_bipush hx hb hd hv (k p e s m args below meth c H locs A lsA X)
theorem K_sipush {n : Int} {v : Int32} (hd : decode cc pc = .ok (.sipush n, 3)) (hv : (Int16.ofInt n).toInt32 = v) (k : KW l cl Ns Ts own nm cc nL ret R D cA E Z (pc + 3) ls (.int v :: st) ws nc ns) : KW l cl Ns Ts own nm cc nL ret R D cA E Z pc ls st ws nc ns := by
  intro p e s m args below meth c H locs A lsA X
  obtain ⟨hx, hb, hr, hml, hlk, hnm, hown, hts, hN, hK, hP, hD, hS, hA, hE, hl⟩ := id X
  exact lv_sipush hx hb hd hv (k p e s m args below meth c H locs A lsA X)
theorem K_iload_n {i : Fin 4} {x : Int32} (hd : decode cc pc = .ok (.iload_n i, 1)) (h : ls[(i : Nat)]? = some (some (.int x))) (k : KW l cl Ns Ts own nm cc nL ret R D cA E Z (pc + 1) ls (.int x :: st) ws nc ns) : KW l cl Ns Ts own nm cc nL ret R D cA E Z pc ls st ws nc ns := by
  intro p e s m args below meth c H locs A lsA X
  obtain ⟨hx, hb, hr, hml, hlk, hnm, hown, hts, hN, hK, hP, hD, hS, hA, hE, hl⟩ := id X
  exact lv_iload_n hx hb hd rfl (jl_at hl h rfl) (k p e s m args below meth c H locs A lsA X)
theorem K_aload_n {i : Fin 4} {x : Nat} (hd : decode cc pc = .ok (.aload_n i, 1)) (h : ls[(i : Nat)]? = some (some (.ref x))) (k : KW l cl Ns Ts own nm cc nL ret R D cA E Z (pc + 1) ls (.ref x :: st) ws nc ns) : KW l cl Ns Ts own nm cc nL ret R D cA E Z pc ls st ws nc ns := by
  intro p e s m args below meth c H locs A lsA X
  obtain ⟨hx, hb, hr, hml, hlk, hnm, hown, hts, hN, hK, hP, hD, hS, hA, hE, hl⟩ := id X
  exact lv_aload_n hx hb hd rfl (jl_at hl h rfl) (k p e s m args below meth c H locs A lsA X)
theorem K_istore_n {i : Fin 4} {x : Int32} (hd : decode cc pc = .ok (.istore_n i, 1)) (hn : (i : Nat) < nL) (k : KW l cl Ns Ts own nm cc nL ret R D cA E Z (pc + 1) (ls.set (i : Nat) (some (.int x))) st ws nc ns) : KW l cl Ns Ts own nm cc nL ret R D cA E Z pc ls (.int x :: st) ws nc ns := by
  intro p e s m args below meth c H locs A lsA X
  obtain ⟨hx, hb, hr, hml, hlk, hnm, hown, hts, hN, hK, hP, hD, hS, hA, hE, hl⟩ := id X
  exact lv_istore_n hx hb hd rfl hl hn rfl (fun ls' hl' => k p e s m args below meth c H locs A ls' ⟨hx, hb, hr, hml, hlk, hnm, hown, hts, hN, hK, hP, hD, hS, hA, hE, jl_store (ad := id) (v := .int x) hl'⟩)
theorem K_astore_n {i : Fin 4} {x : Nat} (hd : decode cc pc = .ok (.astore_n i, 1)) (hn : (i : Nat) < nL) (k : KW l cl Ns Ts own nm cc nL ret R D cA E Z (pc + 1) (ls.set (i : Nat) (some (.ref x))) st ws nc ns) : KW l cl Ns Ts own nm cc nL ret R D cA E Z pc ls (.ref x :: st) ws nc ns := by
  intro p e s m args below meth c H locs A lsA X
  obtain ⟨hx, hb, hr, hml, hlk, hnm, hown, hts, hN, hK, hP, hD, hS, hA, hE, hl⟩ := id X
  exact lv_astore_n hx hb hd rfl hl hn rfl (fun ls' hl' => k p e s m args below meth c H locs A ls' ⟨hx, hb, hr, hml, hlk, hnm, hown, hts, hN, hK, hP, hD, hS, hA, hE, jl_store (ad := id) (v := .ref x) hl'⟩)
theorem K_iinc {i : Nat} {n : Int} {x v : Int32} (hd : decode cc pc = .ok (.iinc i n, 3)) (h : ls[i]? = some (some (.int x))) (hv : x + Int32.ofInt n = v) (hn : i < nL) (k : KW l cl Ns Ts own nm cc nL ret R D cA E Z (pc + 3) (ls.set i (some (.int v))) st ws nc ns) : KW l cl Ns Ts own nm cc nL ret R D cA E Z pc ls st ws nc ns := by
  intro p e s m args below meth c H locs A lsA X
  obtain ⟨hx, hb, hr, hml, hlk, hnm, hown, hts, hN, hK, hP, hD, hS, hA, hE, hl⟩ := id X
  obtain ⟨j, hj⟩ := List.getElem?_of_mem (jl_mem.mpr ⟨i, .int x, h, rfl, rfl⟩ : (0 + i, jv id (.int x)) ∈ jl id 0 ls)
  rw [Nat.zero_add] at hj
  exact lv_iinc hx hb hd hl (k := j) hj hv hn rfl (fun ls' hl' => k p e s m args below meth c H locs A ls' ⟨hx, hb, hr, hml, hlk, hnm, hown, hts, hN, hK, hP, hD, hS, hA, hE, jl_store (ad := id) (v := .int v) hl'⟩)
theorem K_iadd {x y : Int32} (hd : decode cc pc = .ok (.iadd, 1))  (k : KW l cl Ns Ts own nm cc nL ret R D cA E Z (pc + 1) ls (.int (x + y) :: st) ws nc ns) : KW l cl Ns Ts own nm cc nL ret R D cA E Z pc ls (.int y :: .int x :: st) ws nc ns := by
  intro p e s m args below meth c H locs A lsA X
  obtain ⟨hx, hb, hr, hml, hlk, hnm, hown, hts, hN, hK, hP, hD, hS, hA, hE, hl⟩ := id X
  exact lv_iadd hx hb hd (k p e s m args below meth c H locs A lsA X)
theorem K_isub {x y : Int32} (hd : decode cc pc = .ok (.isub, 1))  (k : KW l cl Ns Ts own nm cc nL ret R D cA E Z (pc + 1) ls (.int (x - y) :: st) ws nc ns) : KW l cl Ns Ts own nm cc nL ret R D cA E Z pc ls (.int y :: .int x :: st) ws nc ns := by
  intro p e s m args below meth c H locs A lsA X
  obtain ⟨hx, hb, hr, hml, hlk, hnm, hown, hts, hN, hK, hP, hD, hS, hA, hE, hl⟩ := id X
  exact lv_isub hx hb hd (k p e s m args below meth c H locs A lsA X)
theorem K_iand {x y : Int32} (hd : decode cc pc = .ok (.iand, 1))  (k : KW l cl Ns Ts own nm cc nL ret R D cA E Z (pc + 1) ls (.int (x &&& y) :: st) ws nc ns) : KW l cl Ns Ts own nm cc nL ret R D cA E Z pc ls (.int y :: .int x :: st) ws nc ns := by
  intro p e s m args below meth c H locs A lsA X
  obtain ⟨hx, hb, hr, hml, hlk, hnm, hown, hts, hN, hK, hP, hD, hS, hA, hE, hl⟩ := id X
  exact lv_iand hx hb hd (k p e s m args below meth c H locs A lsA X)
theorem K_dup {v : Value} (hd : decode cc pc = .ok (.dup, 1)) (hv : v.category = 1) (k : KW l cl Ns Ts own nm cc nL ret R D cA E Z (pc + 1) ls (v :: v :: st) ws nc ns) : KW l cl Ns Ts own nm cc nL ret R D cA E Z pc ls (v :: st) ws nc ns := by
  intro p e s m args below meth c H locs A lsA X
  obtain ⟨hx, hb, hr, hml, hlk, hnm, hown, hts, hN, hK, hP, hD, hS, hA, hE, hl⟩ := id X
  exact lv_dup hx hb hd hv (k p e s m args below meth c H locs A lsA X)
theorem K_icmp_ge {x y : Int32} {off : Int} {tgt : Nat} (hd : decode cc pc = .ok (.if_icmp .ge off, 3)) (ht : (pc : Int) + off = (tgt : Int)) (kt : y ≤ x → KW l cl Ns Ts own nm cc nL ret R D cA E Z tgt ls st ws nc ns) (kf : ¬ y ≤ x → KW l cl Ns Ts own nm cc nL ret R D cA E Z (pc + 3) ls st ws nc ns) : KW l cl Ns Ts own nm cc nL ret R D cA E Z pc ls (.int y :: .int x :: st) ws nc ns := by
  intro p e s m args below meth c H locs A lsA X
  obtain ⟨hx, hb, hr, hml, hlk, hnm, hown, hts, hN, hK, hP, hD, hS, hA, hE, hl⟩ := id X
  exact lv_icmp_ge hx hb hd ht (fun h => kt h p e s m args below meth c H locs A lsA X) (fun h => kf h p e s m args below meth c H locs A lsA X)
theorem K_icmp_gt {x y : Int32} {off : Int} {tgt : Nat} (hd : decode cc pc = .ok (.if_icmp .gt off, 3)) (ht : (pc : Int) + off = (tgt : Int)) (kt : y < x → KW l cl Ns Ts own nm cc nL ret R D cA E Z tgt ls st ws nc ns) (kf : ¬ y < x → KW l cl Ns Ts own nm cc nL ret R D cA E Z (pc + 3) ls st ws nc ns) : KW l cl Ns Ts own nm cc nL ret R D cA E Z pc ls (.int y :: .int x :: st) ws nc ns := by
  intro p e s m args below meth c H locs A lsA X
  obtain ⟨hx, hb, hr, hml, hlk, hnm, hown, hts, hN, hK, hP, hD, hS, hA, hE, hl⟩ := id X
  exact lv_icmp_gt hx hb hd ht (fun h => kt h p e s m args below meth c H locs A lsA X) (fun h => kf h p e s m args below meth c H locs A lsA X)
theorem K_icmp_eq {x y : Int32} {off : Int} {tgt : Nat} (hd : decode cc pc = .ok (.if_icmp .eq off, 3)) (ht : (pc : Int) + off = (tgt : Int)) (kt : x = y → KW l cl Ns Ts own nm cc nL ret R D cA E Z tgt ls st ws nc ns) (kf : ¬ x = y → KW l cl Ns Ts own nm cc nL ret R D cA E Z (pc + 3) ls st ws nc ns) : KW l cl Ns Ts own nm cc nL ret R D cA E Z pc ls (.int y :: .int x :: st) ws nc ns := by
  intro p e s m args below meth c H locs A lsA X
  obtain ⟨hx, hb, hr, hml, hlk, hnm, hown, hts, hN, hK, hP, hD, hS, hA, hE, hl⟩ := id X
  exact lv_icmp_eq hx hb hd ht (fun h => kt h p e s m args below meth c H locs A lsA X) (fun h => kf h p e s m args below meth c H locs A lsA X)
theorem K_goto {off : Int} {tgt : Nat} (hd : decode cc pc = .ok (.goto off, 3)) (ht : (pc : Int) + off = (tgt : Int)) (k : KW l cl Ns Ts own nm cc nL ret R D cA E Z tgt ls st ws nc ns) : KW l cl Ns Ts own nm cc nL ret R D cA E Z pc ls st ws nc ns := by
  intro p e s m args below meth c H locs A lsA X
  obtain ⟨hx, hb, hr, hml, hlk, hnm, hown, hts, hN, hK, hP, hD, hS, hA, hE, hl⟩ := id X
  exact lv_goto hx hb hd ht (k p e s m args below meth c H locs A lsA X)
theorem K_tableOut {dflt lo hi : Int} {offs : Array Int} {len : Nat} {x : Int32} {tgt : Nat} (hd : decode cc pc = .ok (.tableswitch dflt lo hi offs, len)) (h : x.toInt < lo ∨ hi < x.toInt) (ht : (pc : Int) + dflt = (tgt : Int)) (k : KW l cl Ns Ts own nm cc nL ret R D cA E Z tgt ls st ws nc ns) : KW l cl Ns Ts own nm cc nL ret R D cA E Z pc ls (.int x :: st) ws nc ns := by
  intro p e s m args below meth c H locs A lsA X
  obtain ⟨hx, hb, hr, hml, hlk, hnm, hown, hts, hN, hK, hP, hD, hS, hA, hE, hl⟩ := id X
  exact lv_tableOut hx hb hd h ht (k p e s m args below meth c H locs A lsA X)
theorem K_tabIn {dflt lo hi : Int} {offs : Array Int} {len : Nat} {x : Int32} (k0 : Int32) {off : Int} {tgt : Nat} (hd : decode cc pc = .ok (.tableswitch dflt lo hi offs, len)) (hk : x = k0) (h1 : ¬ k0.toInt < lo) (h2 : ¬ hi < k0.toInt) (ho : offs[(k0.toInt - lo).toNat]? = some off) (ht : (pc : Int) + off = (tgt : Int)) (k : KW l cl Ns Ts own nm cc nL ret R D cA E Z tgt ls st ws nc ns) : KW l cl Ns Ts own nm cc nL ret R D cA E Z pc ls (.int x :: st) ws nc ns := by
  subst hk
  intro p e s m args below meth c H locs A lsA X
  obtain ⟨hx, hb, hr, hml, hlk, hnm, hown, hts, hN, hK, hP, hD, hS, hA, hE, hl⟩ := id X
  exact lv_tableIn hx hb hd h1 h2 ho ht (k p e s m args below meth c H locs A lsA X)
theorem K_get {index q0 a ci j N : Nat} {fs : List Value} {v : Value} {C : String} {T : u_T} (hd : decode cc pc = .ok (.getfield index, 3)) (he : ws[q0]? = some (a, .inr (ci, fs))) (hc : cl[ci]? = some (C, T, N)) (hin : ∀ w ∈ u_ws C T N, w ∈ Ts) (hj : j < N) (hlk0 : Cond.fieldLink own index (T j).1 (T j).2.1 (T j).2.2.1 ∈ Ts) (hv : fs[j]? = some v) (k : KW l cl Ns Ts own nm cc nL ret R D cA E Z (pc + 3) ls (v :: st) ws nc ns) : KW l cl Ns Ts own nm cc nL ret R D cA E Z pc ls (.ref a :: st) ws nc ns := by
  intro p e s m args below meth c H locs A lsA X
  obtain ⟨hx, hb, hr, hml, hlk, hnm, hown, hts, hN, hK, hP, hD, hS, hA, hE, hl⟩ := id X
  exact va_get hx hb hts hin hown hK hP _ he hc j hj (hts _ hlk0) (fun _ h => h) hv hd (k p e s m args below meth c H locs A lsA X)
theorem K_put {index q0 a ci j N : Nat} {fs : List Value} {v : Value} {C : String} {T : u_T} {ty : FieldType} (hd : decode cc pc = .ok (.putfield index, 3)) (he : ws[q0]? = some (a, .inr (ci, fs))) (hc : cl[ci]? = some (C, T, N)) (hin : ∀ w ∈ u_ws C T N, w ∈ Ts) (ty0 : Nat → FieldType) (hty : ∀ i, i < N → parseFieldDescriptor (T i).2.2.1 = some (ty0 i)) (hnmT : ∀ a, a < N → ∀ b, b < N → a ≠ b → (T a).2.1 ≠ (T b).2.1) (hj : j < N) (hlk0 : Cond.fieldLink own index (T j).1 (T j).2.1 (T j).2.2.1 ∈ Ts) (hfin : (T j).2.2.2 = false) (hpd : parseFieldDescriptor (T j).2.2.1 = some ty) (hn : narrow ty v = v) (hfit : fits ty v = true) (hl0 : j < fs.length)
    (k : KW l cl Ns Ts own nm cc nL ret R D cA E Z (pc + 3) ls st (ws.set q0 (a, .inr (ci, fs.set j v))) nc ns) : KW l cl Ns Ts own nm cc nL ret R D cA E Z pc ls (v :: .ref a :: st) ws nc ns := by
  intro p e s m args below meth c H locs A lsA X
  obtain ⟨hx, hb, hr, hml, hlk, hnm, hown, hts, hN, hK, hP, hD, hS, hA, hE, hl⟩ := id X
  exact va_put hx hb hts hin ty0 hty hnmT hown hK hP hD hS q0 he hc j hj (hts _ hlk0) (fun _ h => h) hfin hpd hn hfit hl0 hd (fun H1 locs1 hP1 hD1 hS1 => k p e s m args below meth c H1 locs1 A lsA ⟨hx, hb, hr, hml, hlk, hnm, hown, hts, hN, hK, hP1, hD1, hS1, hA, hE, hl⟩)
theorem K_putF {index q0 a ci j N : Nat} {fs : List Value} {v : Value} {C : String} {T : u_T} {ty : FieldType} (hd : decode cc pc = .ok (.putfield index, 3)) (he : ws[q0]? = some (a, .inr (ci, fs))) (hc : cl[ci]? = some (C, T, N)) (hin : ∀ w ∈ u_ws C T N, w ∈ Ts) (ty0 : Nat → FieldType) (hty : ∀ i, i < N → parseFieldDescriptor (T i).2.2.1 = some (ty0 i)) (hnmT : ∀ a, a < N → ∀ b, b < N → a ≠ b → (T a).2.1 ≠ (T b).2.1) (hj : j < N) (hlk0 : Cond.fieldLink own index (T j).1 (T j).2.1 (T j).2.2.1 ∈ Ts) (hfin : (T j).2.2.2 = true) (hni : nm = "<init>") (hdecl : (T j).1 = own) (hpd : parseFieldDescriptor (T j).2.2.1 = some ty) (hn : narrow ty v = v) (hfit : fits ty v = true) (hl0 : j < fs.length)
    (k : KW l cl Ns Ts own nm cc nL ret R D cA E Z (pc + 3) ls st (ws.set q0 (a, .inr (ci, fs.set j v))) nc ns) : KW l cl Ns Ts own nm cc nL ret R D cA E Z pc ls (v :: .ref a :: st) ws nc ns := by
  intro p e s m args below meth c H locs A lsA X
  obtain ⟨hx, hb, hr, hml, hlk, hnm, hown, hts, hN, hK, hP, hD, hS, hA, hE, hl⟩ := id X
  exact va_putF hx hb hts hin ty0 hty hnmT hown hK hP hD hS q0 he hc j hj (hts _ hlk0) (fun _ h => h) hfin (hnm.trans hni) hdecl hpd hn hfit hl0 hd (fun H1 locs1 hP1 hD1 hS1 => k p e s m args below meth c H1 locs1 A lsA ⟨hx, hb, hr, hml, hlk, hnm, hown, hts, hN, hK, hP1, hD1, hS1, hA, hE, hl⟩)
theorem K_iast {q0 a n : Nat} {f : Nat → Int32} {i x : Int32} (hd : decode cc pc = .ok (.iastore, 1)) (he : ws[q0]? = some (a, .inl (cA 0, n, .inl f))) (hi : vp_in i n) (k : KW l cl Ns Ts own nm cc nL ret R D cA E Z (pc + 1) ls st (ws.set q0 (a, .inl (cA 0, n, .inl (upd f i.toNatClampNeg x)))) nc ns) : KW l cl Ns Ts own nm cc nL ret R D cA E Z pc ls (.int x :: .int i :: .ref a :: st) ws nc ns := by
  intro p e s m args below meth c H locs A lsA X
  obtain ⟨hx, hb, hr, hml, hlk, hnm, hown, hts, hN, hK, hP, hD, hS, hA, hE, hl⟩ := id X
  exact va_iast hx hb hK hP hD hS q0 0 he rfl hi hd (fun H1 locs1 hP1 hD1 hS1 => k p e s m args below meth c H1 locs1 A lsA ⟨hx, hb, hr, hml, hlk, hnm, hown, hts, hN, hK, hP1, hD1, hS1, hA, hE, hl⟩)
theorem K_new {index ci N : Nat} {fs : List Value} {C : String} {T : u_T} (hd : decode cc pc = .ok (.new index, 3)) (hc : cl[ci]? = some (C, T, N)) (hin : ∀ w ∈ u_ws C T N, w ∈ Ts) (ty0 : Nat → FieldType) (hty : ∀ i, i < N → parseFieldDescriptor (T i).2.2.1 = some (ty0 i)) (hcl : Cond.classLink own index C ∈ Ts) (hinst : Cond.instantiable C N ∈ Ts) (hini : Cond.initialized C ∈ Ts) (hfs : ∀ j, j < N → defaultValue (ty0 j) = vp_V fs j) (hcells : nc + 1 ≤ R.cells) (hslots : ns + N ≤ R.slots)
    (k : ∀ q : Nat, KW l cl Ns Ts own nm cc nL ret R D cA E Z (pc + 3) ls (.ref q :: st) (ws ++ [(q, .inr (ci, fs))]) (nc + 1) (ns + N)) : KW l cl Ns Ts own nm cc nL ret R D cA E Z pc ls st ws nc ns := by
  intro p e s m args below meth c H locs A lsA X
  obtain ⟨hx, hb, hr, hml, hlk, hnm, hown, hts, hN, hK, hP, hD, hS, hA, hE, hl⟩ := id X
  exact va_new hx hb hts hin ty0 hty hown (hts _ hcl) (hts _ hinst) (hts _ hini) hK hP hD hS hA hc hfs hcells hslots hd (fun q H1 hP1 hD1 hS1 => k q p e s m args below meth c H1 locs A lsA ⟨hx, hb, hr, hml, hlk, hnm, hown, hts, hN, hK, hP1, hD1, hS1, hA, hE, hl⟩)
theorem K_newI {n : Int32} {N : Nat} (hd : decode cc pc = .ok (.newarray .int, 2)) (hac : Cond.arrayClass .int ∈ Ts) (hn : ¬ n < 0) (hN : n.toNatClampNeg = N) (hb0 : N * componentBytes .int ≤ 536870912) (hcells : nc + 1 ≤ R.cells) (hslots : ns + N ≤ R.slots)
    (k : ∀ q : Nat, KW l cl Ns Ts own nm cc nL ret R D cA E Z (pc + 2) ls (.ref q :: st) (ws ++ [(q, .inl (cA 0, N, .inl (fun _ => 0)))]) (nc + 1) (ns + N)) : KW l cl Ns Ts own nm cc nL ret R D cA E Z pc ls (.int n :: st) ws nc ns := by
  intro p e s m args below meth c H locs A lsA X
  obtain ⟨hx, hb, hr, hml, hlk, hnm, hown, hts, hN', hK, hP, hD, hS, hA, hE, hl⟩ := id X
  refine va_newa (atype := .int) (ty := .int) (a0 := (N, .inl (fun _ => 0))) hx hb (hts _ hac) rfl hK hP hD hS hA (fun _ => rfl) hn hN hb0 hcells hslots hd (fun q cB H1 hK1 hP1 hD1 hS1 => ?_)
  have e1 : cB = cA 0 := by
    have h1 := (hK1.2 2 (cB, .int) rfl).2
    have h2 := (hK.2 0 (cA 0, .int) rfl).2
    exact Option.some.inj (h1.symm.trans h2)
  subst e1
  exact k q p e s m args below meth c H1 locs A lsA ⟨hx, hb, hr, hml, hlk, hnm, hown, hts, hN', hK, hP1, hD1, hS1, hA, hE, hl⟩
theorem K_newZ {n : Int32} {N : Nat} (hd : decode cc pc = .ok (.newarray .boolean, 2)) (hac : Cond.arrayClass .boolean ∈ Ts) (hn : ¬ n < 0) (hN : n.toNatClampNeg = N) (hb0 : N * componentBytes .boolean ≤ 536870912) (hcells : nc + 1 ≤ R.cells) (hslots : ns + N ≤ R.slots)
    (k : ∀ q : Nat, KW l cl Ns Ts own nm cc nL ret R D cA E Z (pc + 2) ls (.ref q :: st) (ws ++ [(q, .inl (cA 1, N, .inl (fun _ => 0)))]) (nc + 1) (ns + N)) : KW l cl Ns Ts own nm cc nL ret R D cA E Z pc ls (.int n :: st) ws nc ns := by
  intro p e s m args below meth c H locs A lsA X
  obtain ⟨hx, hb, hr, hml, hlk, hnm, hown, hts, hN', hK, hP, hD, hS, hA, hE, hl⟩ := id X
  refine va_newa (atype := .boolean) (ty := .boolean) (a0 := (N, .inl (fun _ => 0))) hx hb (hts _ hac) rfl hK hP hD hS hA (fun _ => rfl) hn hN hb0 hcells hslots hd (fun q cB H1 hK1 hP1 hD1 hS1 => ?_)
  have e1 : cB = cA 1 := by
    have h1 := (hK1.2 2 (cB, .boolean) rfl).2
    have h2 := (hK.2 1 (cA 1, .boolean) rfl).2
    exact Option.some.inj (h1.symm.trans h2)
  subst e1
  exact k q p e s m args below meth c H1 locs A lsA ⟨hx, hb, hr, hml, hlk, hnm, hown, hts, hN', hK, hP1, hD1, hS1, hA, hE, hl⟩
theorem K_objInit {idx a : Nat} (hd : decode cc pc = .ok (.invokespecial idx, 3)) (h1 : Cond.methodLink own idx Lib.objectInit ∈ Ts) (h2 : Cond.instanceMethod Lib.objectInit ∈ Ts) (h3 : Cond.code Lib.objectInit ⟨#[0xb1]⟩ 1 none ∈ Ts) (hf : 1 ≤ R.frames) (hlo : (st.map fun v => v.category).sum + 12 ≤ R.locals) (k : KW l cl Ns Ts own nm cc nL ret R D cA E Z (pc + 3) ls st ws nc ns) : KW l cl Ns Ts own nm cc nL ret R D cA E Z pc ls (.ref a :: st) ws nc ns := by
  intro p e s m args below meth c H locs A lsA X
  obtain ⟨hx, hb, hr, hml, hlk, hnm, hown, hts, hN, hK, hP, hD, hS, hA, hE, hl⟩ := id X
  exact W.objInit hx hb hown (hts _ h1) (hts _ h2) (hts _ h3) rfl (by rw [hml]; exact hl.1) rfl hd hf (by show 2 * 0 + _ + 12 ≤ _; omega) (k p e s m args below meth c H locs A lsA X)
theorem K_vret {Q : va_W → Prop} {mc ms : Nat} (hd : decode cc pc = .ok (.return_, 1)) (hr0 : ret = none) (hq : Q ws) : KW l cl Ns Ts own nm cc nL ret R D cA E (kZ cl D cA Q mc ms) pc ls [] ws mc ms := by
  intro p e s m args below meth c H locs A lsA X
  obtain ⟨hx, hb, hr, hml, hlk, hnm, hown, hts, hN, hK, hP, hD, hS, hA, hE, hl⟩ := id X
  exact W.vret hx hb (hr.trans hr0) (fun t ht hW => ⟨⟨ws, rfl, hq, by rw [ht]; exact hP, va_K.moved hW.alike hK, hD⟩, hS.F ht⟩) hS.2.2 hd hlk
theorem K_callI {index n maxLy b mc ms : Nat} {y : MethodName} {bytes : ByteArray} {Ry : Room} {As : List Value} {wc wr : va_W} {Qy : va_W → Prop} (isC isR : List Nat) (hd : decode cc pc = .ok (.invokespecial index, 3)) (hM : KMet l cl Ns (.code y bytes maxLy none :: Ts) y Ry D cA (.ref b :: As) wc Qy mc ms) (hC : isC.map (fun i => ws[i]?) = wc.map some) (hRr : isR.map (fun i => ws[i]?) = wr.map some) (hnC : va_nd isC = true) (hnR : va_nd isR = true) (hdis : ∀ i ∈ isR, i ∉ isC) (hcode : Cond.code y bytes maxLy none ∈ Ts) (hgood : ∀ w ∈ Ts, (w.onTables && w.keeps) = true ∨ ∃ ty, w = .arrayClass ty) (hrc : Ry.cells = mc) (hrs : Ry.slots = ms) (hini : Cond.initialized y.cls ∈ Ts) (hli : Cond.methodLink own index y ∈ Ts) (hdy : y.cls ≠ "java/lang/invoke/MethodHandle" ∧ y.cls ≠ "java/lang/invoke/VarHandle" ∧ (parseMethodDescriptor y.desc).map (fun d => d.parameters.length) = some n) (hyn : y.name = "<init>") (hst : Cond.instanceMethod y ∈ Ts) (hR : Ry.frames + 1 ≤ R.frames ∧ 8 + (maxLy + 11) + Ry.locals ≤ R.locals) (hn : As.length = n) (hsum : (st.map fun v => v.category).sum ≤ 8) (hcs : nc + mc ≤ R.cells ∧ ns + ms ≤ R.slots)
    (k : ∀ w1 : va_W, Qy w1 → KW l cl Ns Ts own nm cc nL ret R D cA E Z (pc + 3) ls st (wr ++ w1) (nc + mc) (ns + ms)) : KW l cl Ns Ts own nm cc nL ret R D cA E Z pc ls (As.reverse ++ .ref b :: st) ws nc ns := by
  intro p e s m args below meth c H locs A lsA X
  obtain ⟨hx, hb, hr, hml, hlk, hnm, hown, hts, hN, hK, hP, hD, hS, hA, hE, hl⟩ := id X
  have hG := j_good hcode hgood
  have hPc : va_P D cl wc H := by
    refine hP.sub isC ?_
    have e1 : ∀ (l1 : List Nat) (w0 : va_W), l1.map (fun i => ws[i]?) = w0.map some → l1.filterMap (fun i => ws[i]?) = w0 := by
      intro l1
      induction l1 with
      | nil => intro w0 h; cases w0 with
        | nil => rfl
        | cons x t => simp at h
      | cons i t ih => intro w0 h; cases w0 with
        | nil => simp at h
        | cons x u =>
          simp only [List.map_cons, List.cons.injEq] at h
          rw [List.filterMap_cons, h.1, ih u h.2]
    exact e1 isC wc hC
  have hDc := hD.sub isC hnC hC
  have hFc := va_free (wc := wc) hD hS hA isC hC
  have hrun := va_runI (As := As) (rest := st) (b := b) (n := n) (g := F0 m pc lsA (As.reverse ++ .ref b :: st)) (locs := locs) (cells := nc) (slots := ns) (H := H) ⟨hx, hb, hml, hown, hts⟩ (hM H.size) ⟨callB_of n hts hG rfl hrc hrs (hts _ hini) (hts _ hli) hdy hR, hyn, hts _ hst⟩ ⟨fun a U g mk q => by obtain ⟨q0, q1, qN, qP, qK, qD⟩ := q; exact ⟨q0, q1, fun w hw => va_Nw.same (u := U) (U := U.calling g mk a) rfl rfl (qN w hw), qP, va_K.moved (u := U) (U := U.calling g mk a) (Vm.Alike.refl U.vm) qK, qD⟩, fun U hU hW => ⟨rfl, by rw [hU], jN_warm hW hN, by rw [hU]; exact hPc, va_K.moved hW.alike hK, hDc.weaken (fun _ _ _ _ => trivial)⟩⟩ rfl hn hl.1 rfl (lv_room hsum) hd hcs (p := p) (e := e) (below := below) (meth := meth)
  intro T hT Y
  obtain ⟨v, st₀, t, T', L, h0, X', hL, e1, e2, ⟨⟨w1, hv, hq, hP1, hK1, hD1⟩, hz, hk⟩, stp⟩ := hrun T hT Y
  cases hv
  rw [h0] at hz hk
  rw [← e1] at hP1 hz hk
  obtain ⟨hP2, hD2⟩ := va_join (wr := wr) (w1 := w1) hP hD isC isR hC hRr hnR hdis hk hFc hP1 hD1
  have hS' : va_S A s.heap T'.heap (locs ++ L) := ⟨Nat.le_trans hS.1 hz, fun q h1 h2 => by rw [hk q (Nat.lt_of_lt_of_le h1 hS.1) (fun z => h2 (hFc q z))]; exact hS.2.1 q h1 h2, fun q hq => by
      rcases List.mem_append.mp hq with h | h
      · exact hS.2.2 q h
      · exact hFc _ (hL q h)⟩
  obtain ⟨t2, a1, b1⟩ := k w1 hq p e s m args below meth c T'.heap (locs ++ L) A lsA ⟨hx, hb, hr, hml, hlk, hnm, hown, hts, hN, hK, hP2, hD2, hS', hA, hE, hl⟩ T' rfl X'
  exact ⟨t2, stp t2 a1, b1⟩
theorem K_callIN {index n maxLy b mc ms : Nat} {y : MethodName} {bytes : ByteArray} {Ry : Room} {host : String} {As : List Value} {wc wr : va_W} {Qy : va_W → Prop} (isC isR : List Nat) (hd : decode cc pc = .ok (.invokespecial index, 3)) (hM : KMet l cl Ns (.code y bytes maxLy none :: Ts) y Ry D cA (.ref b :: As) wc Qy mc ms) (hC : isC.map (fun i => ws[i]?) = wc.map some) (hRr : isR.map (fun i => ws[i]?) = wr.map some) (hnC : va_nd isC = true) (hnR : va_nd isR = true) (hdis : ∀ i ∈ isR, i ∉ isC) (hcode : Cond.code y bytes maxLy none ∈ Ts) (hgood : ∀ w ∈ Ts, (w.onTables && w.keeps) = true ∨ ∃ ty, w = .arrayClass ty) (hrc : Ry.cells = mc) (hrs : Ry.slots = ms) (hini : Cond.initialized y.cls ∈ Ts) (hli : ((own, index, y, host) : String × Nat × MethodName × String) ∈ Ns) (hdy : y.cls ≠ "java/lang/invoke/MethodHandle" ∧ y.cls ≠ "java/lang/invoke/VarHandle" ∧ (parseMethodDescriptor y.desc).map (fun d => d.parameters.length) = some n) (hyn : y.name = "<init>") (hst : Cond.instanceMethod y ∈ Ts) (hR : Ry.frames + 1 ≤ R.frames ∧ 8 + (maxLy + 11) + Ry.locals ≤ R.locals) (hn : As.length = n) (hsum : (st.map fun v => v.category).sum ≤ 8) (hcs : nc + mc ≤ R.cells ∧ ns + ms ≤ R.slots)
    (k : ∀ w1 : va_W, Qy w1 → KW l cl Ns Ts own nm cc nL ret R D cA E Z (pc + 3) ls st (wr ++ w1) (nc + mc) (ns + ms)) : KW l cl Ns Ts own nm cc nL ret R D cA E Z pc ls (As.reverse ++ .ref b :: st) ws nc ns := by
  intro p e s m args below meth c H locs A lsA X
  obtain ⟨hx, hb, hr, hml, hlk, hnm, hown, hts, hN, hK, hP, hD, hS, hA, hE, hl⟩ := id X
  have hG := j_good hcode hgood
  have hPc : va_P D cl wc H := by
    refine hP.sub isC ?_
    have e1 : ∀ (l1 : List Nat) (w0 : va_W), l1.map (fun i => ws[i]?) = w0.map some → l1.filterMap (fun i => ws[i]?) = w0 := by
      intro l1
      induction l1 with
      | nil => intro w0 h; cases w0 with
        | nil => rfl
        | cons x t => simp at h
      | cons i t ih => intro w0 h; cases w0 with
        | nil => simp at h
        | cons x u =>
          simp only [List.map_cons, List.cons.injEq] at h
          rw [List.filterMap_cons, h.1, ih u h.2]
    exact e1 isC wc hC
  have hDc := hD.sub isC hnC hC
  have hFc := va_free (wc := wc) hD hS hA isC hC
  have hrun := va_runIN (As := As) (rest := st) (b := b) (n := n) (g := F0 m pc lsA (As.reverse ++ .ref b :: st)) (locs := locs) (cells := nc) (slots := ns) (H := H) ⟨hx, hb, hml, hown, hts⟩ (hM H.size) ⟨va_cnB n hts hG rfl hrc hrs (hN _ hli) (hts _ hini) hdy hR, hyn, hts _ hst⟩ ⟨fun a U g mk q => by obtain ⟨q0, q1, qN, qP, qK, qD⟩ := q; exact ⟨q0, q1, fun w hw => va_Nw.same (u := U) (U := U.calling g mk a) rfl rfl (qN w hw), qP, va_K.moved (u := U) (U := U.calling g mk a) (Vm.Alike.refl U.vm) qK, qD⟩, fun U hU hW => ⟨rfl, by rw [hU], jN_warm hW hN, by rw [hU]; exact hPc, va_K.moved hW.alike hK, hDc.weaken (fun _ _ _ _ => trivial)⟩⟩ rfl hn hl.1 rfl (lv_room hsum) hd hcs (p := p) (e := e) (below := below) (meth := meth)
  intro T hT Y
  obtain ⟨v, st₀, t, T', L, h0, X', hL, e1, e2, ⟨⟨w1, hv, hq, hP1, hK1, hD1⟩, hz, hk⟩, stp⟩ := hrun T hT Y
  cases hv
  rw [h0] at hz hk
  rw [← e1] at hP1 hz hk
  obtain ⟨hP2, hD2⟩ := va_join (wr := wr) (w1 := w1) hP hD isC isR hC hRr hnR hdis hk hFc hP1 hD1
  have hS' : va_S A s.heap T'.heap (locs ++ L) := ⟨Nat.le_trans hS.1 hz, fun q h1 h2 => by rw [hk q (Nat.lt_of_lt_of_le h1 hS.1) (fun z => h2 (hFc q z))]; exact hS.2.1 q h1 h2, fun q hq => by
      rcases List.mem_append.mp hq with h | h
      · exact hS.2.2 q h
      · exact hFc _ (hL q h)⟩
  obtain ⟨t2, a1, b1⟩ := k w1 hq p e s m args below meth c T'.heap (locs ++ L) A lsA ⟨hx, hb, hr, hml, hlk, hnm, hown, hts, hN, hK, hP2, hD2, hS', hA, hE, hl⟩ T' rfl X'
  exact ⟨t2, stp t2 a1, b1⟩
theorem k_split {D : va_G} {A A1 : Nat → Prop} {w1 w2 w3 : va_W} {H H1 : Heap} (hP : va_P D cl (w1 ++ w2) H) (hD : va_D A (w1 ++ w2)) (hA1 : ∀ q, A1 q → ∃ (k : Nat) (e : va_E), w1[k]? = some (q, e)) (hk : ∀ q : Nat, q < H.size → ¬ A1 q → H1[q]? = H[q]?) (hP3 : va_P D cl w3 H1) (hD3 : va_D A1 w3) : va_P D cl (w2 ++ w3) H1 ∧ va_D A (w2 ++ w3) := by
  have in2 : ∀ (k : Nat) (q : Nat × va_E), w2[k]? = some q → (w1 ++ w2)[w1.length + k]? = some q := fun k q h => by
    rw [List.getElem?_append_right (by omega), show w1.length + k - w1.length = k by omega]; exact h
  have in1 : ∀ (k : Nat) (q : Nat × va_E), w1[k]? = some q → (w1 ++ w2)[k]? = some q := fun k q h => by
    have := (List.getElem?_eq_some_iff.mp h).1
    rw [List.getElem?_append_left this]; exact h
  have apart : ∀ (k : Nat) (q : Nat × va_E), w2[k]? = some q → ¬ A1 q.1 := by
    intro k q hq h
    obtain ⟨j, e, hj⟩ := hA1 _ h
    have := hD.1 _ _ _ _ (in2 k q hq) (in1 j (q.1, e) hj) rfl
    have := (List.getElem?_eq_some_iff.mp hj).1
    omega
  have hPw : va_P D cl w2 H1 := fun k q hq => (hP _ _ (in2 k q hq)).kept (hk q.1 (hP _ _ (in2 k q hq)).lt (apart k q hq))
  have hDw : va_D A w2 := ⟨fun i j x y hx hy hxy => by have := hD.1 _ _ _ _ (in2 i x hx) (in2 j y hy) hxy; omega, fun k q hq => hD.2 _ _ (in2 k q hq)⟩
  refine ⟨hPw.app hP3, va_D.app hDw (hD3.weaken (fun k q _ h => by obtain ⟨j, e, hj⟩ := hA1 _ h; exact hD.2 j (q.1, e) (in1 j (q.1, e) hj))) (fun i j x y hx hy hxy => ?_)⟩
  exact apart i x hx (by rw [hxy]; exact hD3.2 j y hy)
theorem K_callJS {index n maxLy : Nat} {y : MethodName} {bytes : ByteArray} {rety : Option FieldType} {Ry : Room} {As : List Value} {r : Int32} {ad : Nat → Nat} {wj wj1 : jW} {w2 : va_W} (hd : decode cc pc = .ok (.invokestatic index, 3)) (hM : JMet l cl Ns (.code y bytes maxLy rety :: Ts) y Ry As wj (fun v w => v = some (.int r) ∧ w = wj1)) (hAs : As.map (jv ad) = As) (hcode : Cond.code y bytes maxLy rety ∈ Ts) (hgood : ∀ w ∈ Ts, (w.onTables && w.keeps) = true ∨ ∃ ty, w = .arrayClass ty) (hrc : Ry.cells = 0) (hrs : Ry.slots = 0) (hini : Cond.initialized y.cls ∈ Ts) (hli : Cond.methodLink own index y ∈ Ts) (hdy : y.cls ≠ "java/lang/invoke/MethodHandle" ∧ y.cls ≠ "java/lang/invoke/VarHandle" ∧ (parseMethodDescriptor y.desc).map (fun d => d.parameters.length) = some n) (hst : Cond.static y ∈ Ts) (hR : Ry.frames + 1 ≤ R.frames ∧ 8 + (maxLy + 11) + Ry.locals ≤ R.locals) (hn : As.length = n) (hsum : (st.map fun v => v.category).sum ≤ 8) (hcs : nc ≤ R.cells ∧ ns ≤ R.slots)
    (k : KW l cl Ns Ts own nm cc nL ret R D cA E Z (pc + 3) ls (.int r :: st) (w2 ++ jw cA ad wj1) nc ns) : KW l cl Ns Ts own nm cc nL ret R D cA E Z pc ls (As.reverse ++ st) (jw cA ad wj ++ w2) nc ns := by
  intro p e s m args below meth c H locs A lsA X
  obtain ⟨hx, hb, hr, hml, hlk, hnm, hown, hts, hN, hK, hP, hD, hS, hA, hE, hl⟩ := id X
  have hG := j_good hcode hgood
  have in1 : ∀ (i : Nat) (q : Nat × va_E), (jw cA ad wj)[i]? = some q → (jw cA ad wj ++ w2)[i]? = some q := fun i q h => by
    have := (List.getElem?_eq_some_iff.mp h).1
    rw [List.getElem?_append_left this]; exact h
  have hPc : va_P D cl (jw cA ad wj) H := fun i q h => hP i q (in1 i q h)
  have at1 : ∀ (i : Nat) (q : Nat × va_E), (jw cA ad wj)[i]? = some q → i < wj.length ∧ q.1 = ad i := fun i q h => by
    have hlt := (List.getElem?_eq_some_iff.mp h).1
    rw [jw_len] at hlt
    have := jw_at (cA := cA) (ad := ad) (List.getElem?_eq_getElem hlt)
    rw [this] at h
    cases h
    exact ⟨hlt, rfl⟩
  have hDc : va_D (jA ad wj.length) (jw cA ad wj) := ⟨fun i j x y hx hy hxy => hD.1 i j x y (in1 i x hx) (in1 j y hy) hxy, fun i q h => ⟨i, (at1 i q h).1, (at1 i q h).2⟩⟩
  have hA1 : ∀ q, jA ad wj.length q → ∃ (i : Nat) (e : va_E), (jw cA ad wj)[i]? = some (q, e) := by
    rintro q ⟨i, hi, rfl⟩
    exact ⟨i, _, jw_at (List.getElem?_eq_getElem hi)⟩
  have hAA : ∀ q, jA ad wj.length q → A q := fun q h => by
    obtain ⟨i, e, hi⟩ := hA1 q h
    exact hD.2 i _ (in1 i _ hi)
  have hrun := va_runS (As := As) (rest := st) (n := n) (g := F0 m pc lsA (As.reverse ++ st)) (locs := locs) (cells := nc) (slots := ns) (H := H) ⟨hx, hb, hml, hown, hts⟩ (hM D cA ad) ⟨callB_of n hts hG rfl hrc hrs (hts _ hini) (hts _ hli) hdy hR, hts _ hst⟩ ⟨j_blind, fun U hU hW => ⟨by simp [hAs], jN_warm hW hN, by rw [hU]; exact hPc, va_K.moved hW.alike hK, hDc⟩⟩ rfl hn hl.1 rfl (lv_room hsum) hd hcs (p := p) (e := e) (below := below) (meth := meth)
  intro T hT Y
  obtain ⟨v, st₀, t, T', L, h0, X', hL, e1, e2, ⟨⟨r0, w, hv, ⟨hr1, hr2⟩, hwl, hP1, hK1, hD1⟩, hz, hk⟩, stp⟩ := hrun T hT Y
  subst hr1; subst hr2
  cases hv
  rw [h0] at hz hk
  rw [← e1] at hP1 hz hk
  obtain ⟨hP2, hD2⟩ := k_split hP hD hA1 hk hP1 hD1
  have hS' : va_S A s.heap T'.heap (locs ++ L) := ⟨Nat.le_trans hS.1 hz, fun q h1 h2 => by rw [hk q (Nat.lt_of_lt_of_le h1 hS.1) (fun z => h2 (hAA q z))]; exact hS.2.1 q h1 h2, fun q hq => by
      rcases List.mem_append.mp hq with h | h
      · exact hS.2.2 q h
      · exact hAA _ (hL q h)⟩
  obtain ⟨t2, a1, b1⟩ := k p e s m args below meth c T'.heap (locs ++ L) A lsA ⟨hx, hb, hr, hml, hlk, hnm, hown, hts, hN, hK, hP2, hD2, hS', hA, hE, hl⟩ T' rfl X'
  exact ⟨t2, stp t2 a1, b1⟩
theorem K_callJSN {index n maxLy : Nat} {y : MethodName} {bytes : ByteArray} {rety : Option FieldType} {Ry : Room} {host : String} {As : List Value} {r : Int32} {ad : Nat → Nat} {wj wj1 : jW} {w2 : va_W} (hd : decode cc pc = .ok (.invokestatic index, 3)) (hM : JMet l cl Ns (.code y bytes maxLy rety :: Ts) y Ry As wj (fun v w => v = some (.int r) ∧ w = wj1)) (hAs : As.map (jv ad) = As) (hcode : Cond.code y bytes maxLy rety ∈ Ts) (hgood : ∀ w ∈ Ts, (w.onTables && w.keeps) = true ∨ ∃ ty, w = .arrayClass ty) (hrc : Ry.cells = 0) (hrs : Ry.slots = 0) (hini : Cond.initialized y.cls ∈ Ts) (hli : ((own, index, y, host) : String × Nat × MethodName × String) ∈ Ns) (hdy : y.cls ≠ "java/lang/invoke/MethodHandle" ∧ y.cls ≠ "java/lang/invoke/VarHandle" ∧ (parseMethodDescriptor y.desc).map (fun d => d.parameters.length) = some n) (hst : Cond.static y ∈ Ts) (hR : Ry.frames + 1 ≤ R.frames ∧ 8 + (maxLy + 11) + Ry.locals ≤ R.locals) (hn : As.length = n) (hsum : (st.map fun v => v.category).sum ≤ 8) (hcs : nc ≤ R.cells ∧ ns ≤ R.slots)
    (k : KW l cl Ns Ts own nm cc nL ret R D cA E Z (pc + 3) ls (.int r :: st) (w2 ++ jw cA ad wj1) nc ns) : KW l cl Ns Ts own nm cc nL ret R D cA E Z pc ls (As.reverse ++ st) (jw cA ad wj ++ w2) nc ns := by
  intro p e s m args below meth c H locs A lsA X
  obtain ⟨hx, hb, hr, hml, hlk, hnm, hown, hts, hN, hK, hP, hD, hS, hA, hE, hl⟩ := id X
  have hG := j_good hcode hgood
  have in1 : ∀ (i : Nat) (q : Nat × va_E), (jw cA ad wj)[i]? = some q → (jw cA ad wj ++ w2)[i]? = some q := fun i q h => by
    have := (List.getElem?_eq_some_iff.mp h).1
    rw [List.getElem?_append_left this]; exact h
  have hPc : va_P D cl (jw cA ad wj) H := fun i q h => hP i q (in1 i q h)
  have at1 : ∀ (i : Nat) (q : Nat × va_E), (jw cA ad wj)[i]? = some q → i < wj.length ∧ q.1 = ad i := fun i q h => by
    have hlt := (List.getElem?_eq_some_iff.mp h).1
    rw [jw_len] at hlt
    have := jw_at (cA := cA) (ad := ad) (List.getElem?_eq_getElem hlt)
    rw [this] at h
    cases h
    exact ⟨hlt, rfl⟩
  have hDc : va_D (jA ad wj.length) (jw cA ad wj) := ⟨fun i j x y hx hy hxy => hD.1 i j x y (in1 i x hx) (in1 j y hy) hxy, fun i q h => ⟨i, (at1 i q h).1, (at1 i q h).2⟩⟩
  have hA1 : ∀ q, jA ad wj.length q → ∃ (i : Nat) (e : va_E), (jw cA ad wj)[i]? = some (q, e) := by
    rintro q ⟨i, hi, rfl⟩
    exact ⟨i, _, jw_at (List.getElem?_eq_getElem hi)⟩
  have hAA : ∀ q, jA ad wj.length q → A q := fun q h => by
    obtain ⟨i, e, hi⟩ := hA1 q h
    exact hD.2 i _ (in1 i _ hi)
  have hrun := va_runSN (As := As) (rest := st) (n := n) (g := F0 m pc lsA (As.reverse ++ st)) (locs := locs) (cells := nc) (slots := ns) (H := H) ⟨hx, hb, hml, hown, hts⟩ (hM D cA ad) ⟨va_cnB n hts hG rfl hrc hrs (hN _ hli) (hts _ hini) hdy hR, hts _ hst, trivial⟩ ⟨j_blind, fun U hU hW => ⟨by simp [hAs], jN_warm hW hN, by rw [hU]; exact hPc, va_K.moved hW.alike hK, hDc⟩⟩ rfl hn hl.1 rfl (lv_room hsum) hd hcs (p := p) (e := e) (below := below) (meth := meth)
  intro T hT Y
  obtain ⟨v, st₀, t, T', L, h0, X', hL, e1, e2, ⟨⟨r0, w, hv, ⟨hr1, hr2⟩, hwl, hP1, hK1, hD1⟩, hz, hk⟩, stp⟩ := hrun T hT Y
  subst hr1; subst hr2
  cases hv
  rw [h0] at hz hk
  rw [← e1] at hP1 hz hk
  obtain ⟨hP2, hD2⟩ := k_split hP hD hA1 hk hP1 hD1
  have hS' : va_S A s.heap T'.heap (locs ++ L) := ⟨Nat.le_trans hS.1 hz, fun q h1 h2 => by rw [hk q (Nat.lt_of_lt_of_le h1 hS.1) (fun z => h2 (hAA q z))]; exact hS.2.1 q h1 h2, fun q hq => by
      rcases List.mem_append.mp hq with h | h
      · exact hS.2.2 q h
      · exact hAA _ (hL q h)⟩
  obtain ⟨t2, a1, b1⟩ := k p e s m args below meth c T'.heap (locs ++ L) A lsA ⟨hx, hb, hr, hml, hlk, hnm, hown, hts, hN, hK, hP2, hD2, hS', hA, hE, hl⟩ T' rfl X'
  exact ⟨t2, stp t2 a1, b1⟩
theorem K_callJV {index n maxLy : Nat} {y : MethodName} {bytes : ByteArray} {rety : Option FieldType} {Ry : Room} {b ci N : Nat} {fs : List Value} {T : u_T} {As : List Value} {r : Int32} {ad : Nat → Nat} {wj wj1 : jW} {w2 : va_W} (hd : decode cc pc = .ok (.invokevirtual index, 3)) (hM : JMet l cl Ns (.code y bytes maxLy rety :: Ts) y Ry (.ref b :: As) wj (fun v w => v = some (.int r) ∧ w = wj1)) (he : wj[b]? = some (.inr (ci, fs))) (hc : cl[ci]? = some (y.cls, T, N)) (hAs : As.map (jv ad) = As) (hcode : Cond.code y bytes maxLy rety ∈ Ts) (hgood : ∀ w ∈ Ts, (w.onTables && w.keeps) = true ∨ ∃ ty, w = .arrayClass ty) (hrc : Ry.cells = 0) (hrs : Ry.slots = 0) (hini : Cond.initialized y.cls ∈ Ts) (hli : Cond.methodLink own index y ∈ Ts) (hdy : y.cls ≠ "java/lang/invoke/MethodHandle" ∧ y.cls ≠ "java/lang/invoke/VarHandle" ∧ (parseMethodDescriptor y.desc).map (fun d => d.parameters.length) = some n) (hst : Cond.instanceMethod y ∈ Ts) (hsel : Cond.selects y.cls y y ∈ Ts) (hR : Ry.frames + 1 ≤ R.frames ∧ 8 + (maxLy + 11) + Ry.locals ≤ R.locals) (hn : As.length = n) (hsum : (st.map fun v => v.category).sum ≤ 8) (hcs : nc ≤ R.cells ∧ ns ≤ R.slots)
    (k : KW l cl Ns Ts own nm cc nL ret R D cA E Z (pc + 3) ls (.int r :: st) (w2 ++ jw cA ad wj1) nc ns) : KW l cl Ns Ts own nm cc nL ret R D cA E Z pc ls (As.reverse ++ .ref (ad b) :: st) (jw cA ad wj ++ w2) nc ns := by
  intro p e s m args below meth c H locs A lsA X
  obtain ⟨hx, hb, hr, hml, hlk, hnm, hown, hts, hN, hK, hP, hD, hS, hA, hE, hl⟩ := id X
  have hG := j_good hcode hgood
  have in1 : ∀ (i : Nat) (q : Nat × va_E), (jw cA ad wj)[i]? = some q → (jw cA ad wj ++ w2)[i]? = some q := fun i q h => by
    have := (List.getElem?_eq_some_iff.mp h).1
    rw [List.getElem?_append_left this]; exact h
  have hPc : va_P D cl (jw cA ad wj) H := fun i q h => hP i q (in1 i q h)
  have at1 : ∀ (i : Nat) (q : Nat × va_E), (jw cA ad wj)[i]? = some q → i < wj.length ∧ q.1 = ad i := fun i q h => by
    have hlt := (List.getElem?_eq_some_iff.mp h).1
    rw [jw_len] at hlt
    have := jw_at (cA := cA) (ad := ad) (List.getElem?_eq_getElem hlt)
    rw [this] at h
    cases h
    exact ⟨hlt, rfl⟩
  have hDc : va_D (jA ad wj.length) (jw cA ad wj) := ⟨fun i j x y hx hy hxy => hD.1 i j x y (in1 i x hx) (in1 j y hy) hxy, fun i q h => ⟨i, (at1 i q h).1, (at1 i q h).2⟩⟩
  have hA1 : ∀ q, jA ad wj.length q → ∃ (i : Nat) (e : va_E), (jw cA ad wj)[i]? = some (q, e) := by
    rintro q ⟨i, hi, rfl⟩
    exact ⟨i, _, jw_at (List.getElem?_eq_getElem hi)⟩
  have hAA : ∀ q, jA ad wj.length q → A q := fun q h => by
    obtain ⟨i, e, hi⟩ := hA1 q h
    exact hD.2 i _ (in1 i _ hi)
  have hrun := va_runV (C := y.cls) (b := ad b) (As := As) (rest := st) (n := n) (g := F0 m pc lsA (As.reverse ++ .ref (ad b) :: st)) (locs := locs) (cells := nc) (slots := ns) (H := H) ⟨hx, hb, hml, hown, hts⟩ (hM D cA ad) ⟨callB_of n hts hG rfl hrc hrs (hts _ hini) (hts _ hli) hdy hR, hts _ hst, hts _ hsel⟩ ⟨j_blind, va_recv hK hPc hc (jw_at he), fun U hU hW => ⟨by simp [hAs, jv], jN_warm hW hN, by rw [hU]; exact hPc, va_K.moved hW.alike hK, hDc⟩⟩ rfl hn hl.1 rfl (lv_room hsum) hd hcs (p := p) (e := e) (below := below) (meth := meth)
  intro T hT Y
  obtain ⟨v, st₀, t, T', L, h0, X', hL, e1, e2, ⟨⟨r0, w, hv, ⟨hr1, hr2⟩, hwl, hP1, hK1, hD1⟩, hz, hk⟩, stp⟩ := hrun T hT Y
  subst hr1; subst hr2
  cases hv
  rw [h0] at hz hk
  rw [← e1] at hP1 hz hk
  obtain ⟨hP2, hD2⟩ := k_split hP hD hA1 hk hP1 hD1
  have hS' : va_S A s.heap T'.heap (locs ++ L) := ⟨Nat.le_trans hS.1 hz, fun q h1 h2 => by rw [hk q (Nat.lt_of_lt_of_le h1 hS.1) (fun z => h2 (hAA q z))]; exact hS.2.1 q h1 h2, fun q hq => by
      rcases List.mem_append.mp hq with h | h
      · exact hS.2.2 q h
      · exact hAA _ (hL q h)⟩
  obtain ⟨t2, a1, b1⟩ := k p e s m args below meth c T'.heap (locs ++ L) A lsA ⟨hx, hb, hr, hml, hlk, hnm, hown, hts, hN, hK, hP2, hD2, hS', hA, hE, hl⟩ T' rfl X'
  exact ⟨t2, stp t2 a1, b1⟩
end KR

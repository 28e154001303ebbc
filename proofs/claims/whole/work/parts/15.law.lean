theorem lw_ret' {p : Program} {l : Launch} {e : Env} {s : State} {m : MethodId} {args : Array Value} {below : List Frame} {meth : Method} {c : Code} (hx : p.tables.exec = Jvm.exec) (hb : c.code = code) (hr : meth.sig.returnType = ret) (hlocks : meth.locks = false) {pc : Nat} {H : Heap} {ls : Array Slot} (hdg : decode code pc = .ok (.ireturn, 1)) : W p l e room_1 s m args below meth c H [] 28 1585 (lw_Z below args s) (F0 m pc ls [.int 1]) := by
  intro T hT X
  obtain ⟨fs, hret, hrun, hended, hW, hframe⟩ := X.leave (v := some (.int 1)) (hlocks := hlocks) (fun h => by rw [hr] at h; cases h)
  have hmeth' : T.vm.method? m = some meth := X.method'
  refine ⟨T.setFrames fs, ?_, .returned (some (.int 1)), hrun, hended, rfl, ⟨_, rfl⟩, hW, hframe⟩
  jvm_step X.here [X.here.top, hx, hb, hdg, hmeth', hr, ret, narrow_b1]
  (try refine ⟨rfl, ?_⟩); (try refine ⟨rfl, ?_⟩)
  first | (intro acts; rw [hret _ acts rfl rfl rfl]) | rw [hret _ _ rfl rfl rfl]
  exact Steps.refl _
def lE (b L : Nat) (xs : Nat → Int32) : State → (Nat → Prop) → Prop := fun s A => va_X b L xs s s.heap ∧ b < s.heap.size ∧ ¬ A b ∧ ∀ q, A q → s.heap.size ≤ q
def lZ : kZt := fun s args below _ => lw_Z below args s
abbrev LK (l : Launch) (nm : String) (D : va_G) (cA : Nat → ClassId) (b L : Nat) (xs : Nat → Int32) := KW l vwCl NsG TsG "ClassifySortLaw" nm code 4 ret room_1 D cA (lE b L xs) lZ
section LL
variable {l : Launch} {nm : String} {D : va_G} {cA : Nat → ClassId} {b L : Nat} {xs : Nat → Int32} {pc : Nat} {ls : List (Option Value)} {st : List Value} {ws : va_W} {nc ns : Nat}
theorem L_len (hd : decode code pc = .ok (.arraylength, 1)) (k : LK l nm D cA b L xs (pc + 1) ls (.int (nI L) :: st) ws nc ns) : LK l nm D cA b L xs pc ls (.ref b :: st) ws nc ns := by
  intro p e s m args below meth c H locs A lsA X
  obtain ⟨hx, hb, hr, hml, hlk, hnm, hown, hts, hN, hK, hP, hD, hS, hA, ⟨hX, hbl, hbA, hAs⟩, hl⟩ := id X
  exact va_slen hx hb hX hbl hbA hS hd (k p e s m args below meth c H locs A lsA X)
theorem L_ld {x : Int32} (j : Nat) (hd : decode code pc = .ok (.iaload, 1)) (hj : j < L) (hL : L < 2 ^ 31) (hx0 : x = nI j) (k : LK l nm D cA b L xs (pc + 1) ls (.int (xs j) :: st) ws nc ns) : LK l nm D cA b L xs pc ls (.int x :: .ref b :: st) ws nc ns := by
  subst hx0
  intro p e s m args below meth c H locs A lsA X
  obtain ⟨hx, hb, hr, hml, hlk, hnm, hown, hts, hN, hK, hP, hD, hS, hA, ⟨hX, hbl, hbA, hAs⟩, hl⟩ := id X
  refine va_sld hx hb hX hbl hbA hS (vp_in_nI hj hL) hd ?_
  rw [nI_clamp (by omega)]
  exact k p e s m args below meth c H locs A lsA X
theorem L_fin (hd : decode code pc = .ok (.ireturn, 1)) : LK l nm D cA b L xs pc ls [.int 1] ws 28 1585 := by
  intro p e s m args below meth c H locs A lsA X
  obtain ⟨hx, hb, hr, hml, hlk, hnm, hown, hts, hN, hK, hP, hD, hS, hA, ⟨hX, hbl, hbA, hAs⟩, hl⟩ := id X
  exact va_forget (fun q hq => hAs _ (hS.2.2 q hq)) (lw_ret' hx hb hr hlk hd)
end LL
theorem l_gt {L i : Nat} (hL : L ≤ 2048) (hi : i ≤ 4096) : nI L - 4 < nI i ↔ L < i + 4 := by
  rw [Int32.lt_iff_toInt_lt, show (4 : Int32) = nI 4 from rfl, pk_sub_toInt (by omega) (by omega), nI_toInt (by omega)]
  omega
def adL (q : List Nat) (k : Nat) : Nat := q.getD k 0
def s0X : jS := fun i => if i = 6 then 20 else 0
def a0X : jB := fun p => if p = 7 ∨ p = 8 then upd (fun _ => 0) 20 ((1 : Int32) <<< ((20 : Int32) &&& 31)) else fun _ => 0
def s0M : jS := fun i => if i = 4 then 20 else 0
def a0M (f : Nat → Int32) : jB := fun p => if p = 6 then f else fun _ => 0
abbrev jRel : Type := jS → jB → jS → jB → Prop
def sim_class0 (Rel : jRel) : Prop := ∀ (s : jS) (a : jB) (s' : jS) (a' : jB), Rel s a s' a' → ∃ (r : Int32) (s1 : jS) (a1 : jB) (s2 : jS) (a2 : jB), m_X_class0 s a = some (r, s1, a1) ∧ m_M_class0 s' a' = some (r, s2, a2) ∧ Rel s1 a1 s2 a2
def sim_thing (Rel : jRel) : Prop := ∀ (s : jS) (a : jB) (s' : jS) (a' : jB), Rel s a s' a' → ∃ (r : Int32) (s1 : jS) (a1 : jB) (s2 : jS) (a2 : jB), m_X_thing s a = some (r, s1, a1) ∧ m_M_thing s' a' = some (r, s2, a2) ∧ Rel s1 a1 s2 a2
def sim_axiom (Rel : jRel) : Prop := ∀ (s : jS) (a : jB) (s' : jS) (a' : jB) (p0 p1 p2 : Int32), Rel s a s' a' → ∃ (r : Int32) (s1 : jS) (a1 : jB) (s2 : jS) (a2 : jB), m_X_axiom s a p0 p1 p2 = some (r, s1, a1) ∧ m_M_axiom s' a' p0 p1 p2 = some (r, s2, a2) ∧ Rel s1 a1 s2 a2
def sim_remove (Rel : jRel) : Prop := ∀ (s : jS) (a : jB) (s' : jS) (a' : jB) (p0 : Int32), Rel s a s' a' → ∃ (r : Int32) (s1 : jS) (a1 : jB) (s2 : jS) (a2 : jB), m_X_remove s a p0 = some (r, s1, a1) ∧ m_M_remove s' a' p0 = some (r, s2, a2) ∧ Rel s1 a1 s2 a2
def sim_fuel (Rel : jRel) : Prop := ∀ (s : jS) (a : jB) (s' : jS) (a' : jB) (p0 : Int32), Rel s a s' a' → ∃ (r : Int32) (s1 : jS) (a1 : jB) (s2 : jS) (a2 : jB), m_X_fuel s a p0 = some (r, s1, a1) ∧ m_M_fuel s' a' p0 = some (r, s2, a2) ∧ Rel s1 a1 s2 a2
def sim_known (Rel : jRel) : Prop := ∀ (s : jS) (a : jB) (s' : jS) (a' : jB) (p0 p1 : Int32), Rel s a s' a' → ∃ (r : Int32), m_X_known s a p0 p1 = some r ∧ m_M_known s' a' p0 p1 = some r ∧ Rel s a s' a'
def sim_ask (Rel : jRel) : Prop := ∀ (s : jS) (a : jB) (s' : jS) (a' : jB) (p0 p1 : Int32), Rel s a s' a' → ∃ (r : Int32) (s1 : jS) (a1 : jB) (s2 : jS) (a2 : jB), m_X_ask s a p0 p1 = some (r, s1, a1) ∧ m_M_ask s' a' p0 p1 = some (r, s2, a2) ∧ Rel s1 a1 s2 a2
def sim_run (Rel : jRel) : Prop := ∀ (s : jS) (a : jB) (s' : jS) (a' : jB), Rel s a s' a' → ∃ (r : Int32) (s1 : jS) (a1 : jB) (s2 : jS) (a2 : jB), m_X_run s a = some (r, s1, a1) ∧ m_M_run s' a' = some (r, s2, a2) ∧ Rel s1 a1 s2 a2
def sim_parent (Rel : jRel) : Prop := ∀ (s : jS) (a : jB) (s' : jS) (a' : jB) (p0 p1 : Int32), Rel s a s' a' → ∃ (r : Int32), m_X_parent s a p0 p1 = some r ∧ m_M_parent s' a' p0 p1 = some r ∧ Rel s a s' a'
def sim_child (Rel : jRel) : Prop := ∀ (s : jS) (a : jB) (s' : jS) (a' : jB) (p0 p1 : Int32), Rel s a s' a' → ∃ (r : Int32), m_X_child s a p0 p1 = some r ∧ m_M_child s' a' p0 p1 = some r ∧ Rel s a s' a'
def sim_equal (Rel : jRel) : Prop := ∀ (s : jS) (a : jB) (s' : jS) (a' : jB) (p0 p1 : Int32), Rel s a s' a' → ∃ (r : Int32), m_X_equal s a p0 p1 = some r ∧ m_M_equal s' a' p0 p1 = some r ∧ Rel s a s' a'
def sim_empty (Rel : jRel) : Prop := ∀ (s : jS) (a : jB) (s' : jS) (a' : jB) (p0 : Int32), Rel s a s' a' → ∃ (r : Int32), m_X_empty s a p0 = some r ∧ m_M_empty s' a' p0 = some r ∧ Rel s a s' a'
def sim_open (Rel : jRel) : Prop := ∀ (s : jS) (a : jB) (s' : jS) (a' : jB) (p0 : Int32), Rel s a s' a' → ∃ (r : Int32), m_X_open s a p0 = some r ∧ m_M_open s' a' p0 = some r ∧ Rel s a s' a'
def sim_put (Rel : jRel) : Prop := ∀ (s : jS) (a : jB) (s' : jS) (a' : jB) (p0 p1 : Int32), Rel s a s' a' → ∃ (r : Int32) (s1 : jS) (a1 : jB) (s2 : jS) (a2 : jB), m_X_put s a p0 p1 = some (r, s1, a1) ∧ m_M_put s' a' p0 p1 = some (r, s2, a2) ∧ Rel s1 a1 s2 a2
def sim_type (Rel : jRel) : Prop := ∀ (s : jS) (a : jB) (s' : jS) (a' : jB) (p0 p1 : Int32), Rel s a s' a' → ∃ (r : Int32) (s1 : jS) (a1 : jB) (s2 : jS) (a2 : jB), m_X_type s a p0 p1 = some (r, s1, a1) ∧ m_M_type s' a' p0 p1 = some (r, s2, a2) ∧ Rel s1 a1 s2 a2
def sim_trace (Rel : jRel) : Prop := ∀ (s : jS) (a : jB) (s' : jS) (a' : jB) (p0 p1 p2 : Int32), Rel s a s' a' → ∃ (r : Int32) (s1 : jS) (a1 : jB) (s2 : jS) (a2 : jB), m_X_trace s a p0 p1 p2 = some (r, s1, a1) ∧ m_M_trace s' a' p0 p1 p2 = some (r, s2, a2) ∧ Rel s1 a1 s2 a2
def sim_count (Rel : jRel) : Prop := ∀ (s : jS) (a : jB) (s' : jS) (a' : jB) (p0 : Int32), Rel s a s' a' → ∃ (r : Int32), m_X_count s a p0 = some r ∧ m_M_count s' a' p0 = some r ∧ Rel s a s' a'
def SimAll (Rel : jRel) : Prop := sim_class0 Rel ∧ sim_thing Rel ∧ sim_axiom Rel ∧ sim_remove Rel ∧ sim_fuel Rel ∧ sim_known Rel ∧ sim_ask Rel ∧ sim_run Rel ∧ sim_parent Rel ∧ sim_child Rel ∧ sim_equal Rel ∧ sim_empty Rel ∧ sim_open Rel ∧ sim_put Rel ∧ sim_type Rel ∧ sim_trace Rel ∧ sim_count Rel
set_option maxRecDepth 100000 in
set_option maxHeartbeats 8000000 in
theorem law_loop {Rel : jRel} (hsim : SimAll Rel) (l : Launch) (nm : String) (D : va_G) (cA : Nat → ClassId) (b L : Nat) (xs : Nat → Int32) (hL : L ≤ 2048) (qx qm : List Nat) :
    ∀ (n i : Nat), i ≤ L + 3 → L + 1 ≤ i + n → ∀ (s : jS) (a : jB) (s' : jS) (a' : jB), Rel s a s' a' → LK l nm D cA b L xs 18 [some (.ref b), some (.ref (adL qx 0)), some (.ref (adL qm 0)), some (.int (nI i))] [] (jw cA (adL qx) (wX s a) ++ jw cA (adL qm) (wM s' a')) 28 1585 := by
  obtain ⟨h_class0, h_thing, h_axiom, h_remove, h_fuel, h_known, h_ask, h_run, h_parent, h_child, h_equal, h_empty, h_open, h_put, h_type, h_trace, h_count⟩ := hsim
  intro n
  induction n with
  | zero =>
    intro i hi hin s a s' a' hR
    refine K_iload_n d_L_law_18 rfl ?_
    refine K_aload_n d_L_law_19 rfl ?_
    refine L_len d_L_law_20 ?_
    refine K_iconst (v := 4) d_L_law_21 (by decide) ?_
    refine K_isub d_L_law_22 ?_
    refine K_icmp_gt (tgt := 593) d_L_law_23 (by decide) (fun c => ?_) (fun c => absurd ((l_gt hL (by omega)).mpr (by omega)) c)
    refine K_iconst (v := 1) d_L_law_593 (by decide) ?_
    exact L_fin d_L_law_594
  | succ n ih =>
    intro i hi hin s a s' a' hR
    refine K_iload_n d_L_law_18 rfl ?_
    refine K_aload_n d_L_law_19 rfl ?_
    refine L_len d_L_law_20 ?_
    refine K_iconst (v := 4) d_L_law_21 (by decide) ?_
    refine K_isub d_L_law_22 ?_
    refine K_icmp_gt (tgt := 593) d_L_law_23 (by decide) (fun c => ?_) (fun c => ?_)
    · refine K_iconst (v := 1) d_L_law_593 (by decide) ?_
      exact L_fin d_L_law_594
    have hiL : i + 4 ≤ L := by
      rcases Nat.lt_or_ge L (i + 4) with q | q
      · exact absurd ((l_gt hL (by omega)).mpr q) c
      · exact q
    have next : ∀ (s : jS) (a : jB) (s' : jS) (a' : jB), Rel s a s' a' → LK l nm D cA b L xs 587 [some (.ref b), some (.ref (adL qx 0)), some (.ref (adL qm 0)), some (.int (nI i))] [] (jw cA (adL qx) (wX s a) ++ jw cA (adL qm) (wM s' a')) 28 1585 := by
      intro s a s' a' hR
      refine K_iinc (v := nI (i + 4)) d_L_law_587 rfl (nI_add i 4) (by decide) ?_
      refine K_goto (tgt := 18) d_L_law_590 (by decide) ?_
      exact ih (i + 4) (by omega) (by omega) s a s' a' hR
    refine K_aload_n d_L_law_26 rfl ?_
    refine K_iload_n d_L_law_27 rfl ?_
    refine L_ld i d_L_law_28 (by omega) (by omega) rfl ?_
    refine K_bipush (v := 31) d_L_law_29 (by decide) ?_
    refine K_iand d_L_law_31 ?_
    generalize xs i &&& 31 = z
    by_cases c0 : z = 0
    · refine K_tabIn (k0 := 0) (tgt := 116) d_L_law_32 c0 (by decide) (by decide) rfl (by decide) ?_
      obtain ⟨r, s1, a1, s2, a2, e1, e2, hR1⟩ := h_class0 s a s' a'  hR
      refine K_aload_n d_L_law_116 rfl ?_
      refine K_callJV (As := []) (r := r) (ad := adL qx) (b := 0) (wj := wX s a) (wj1 := wX s1 a1) (w2 := jw cA (adL qm) (wM s' a')) (st := []) d_L_law_117 (c_X_class0 l s a  (r, s1, a1) e1) (wX_at0 s a) rfl rfl ts_414 ts_good rfl rfl ts_4 ts_415 dy_X_class0 ts_416 ts_417 (by decide) rfl (Nat.le_of_ble_eq_true rfl) (by decide) ?_
      refine K_aload_n d_L_law_120 rfl ?_
      refine K_callJV (As := []) (r := r) (ad := adL qm) (b := 0) (wj := wM s' a') (wj1 := wM s2 a2) (w2 := jw cA (adL qx) (wX s1 a1)) (st := [.int r]) d_L_law_121 (c_M_class0 l s' a'  (r, s2, a2) e2) (wM_at0 s' a') rfl rfl ts_418 ts_good rfl rfl ts_278 ts_419 dy_M_class0 ts_420 ts_421 (by decide) rfl (Nat.le_of_ble_eq_true rfl) (by decide) ?_
      refine K_icmp_eq (tgt := 587) d_L_law_124 (by decide) (fun _ => ?_) (fun c => absurd rfl c)
      exact next _ _ _ _ hR1
    by_cases c1 : z = 1
    · refine K_tabIn (k0 := 1) (tgt := 129) d_L_law_32 c1 (by decide) (by decide) rfl (by decide) ?_
      obtain ⟨r, s1, a1, s2, a2, e1, e2, hR1⟩ := h_thing s a s' a'  hR
      refine K_aload_n d_L_law_129 rfl ?_
      refine K_callJV (As := []) (r := r) (ad := adL qx) (b := 0) (wj := wX s a) (wj1 := wX s1 a1) (w2 := jw cA (adL qm) (wM s' a')) (st := []) d_L_law_130 (c_X_thing l s a  (r, s1, a1) e1) (wX_at0 s a) rfl rfl ts_422 ts_good rfl rfl ts_4 ts_423 dy_X_thing ts_424 ts_425 (by decide) rfl (Nat.le_of_ble_eq_true rfl) (by decide) ?_
      refine K_aload_n d_L_law_133 rfl ?_
      refine K_callJV (As := []) (r := r) (ad := adL qm) (b := 0) (wj := wM s' a') (wj1 := wM s2 a2) (w2 := jw cA (adL qx) (wX s1 a1)) (st := [.int r]) d_L_law_134 (c_M_thing l s' a'  (r, s2, a2) e2) (wM_at0 s' a') rfl rfl ts_426 ts_good rfl rfl ts_278 ts_427 dy_M_thing ts_428 ts_429 (by decide) rfl (Nat.le_of_ble_eq_true rfl) (by decide) ?_
      refine K_icmp_eq (tgt := 587) d_L_law_137 (by decide) (fun _ => ?_) (fun c => absurd rfl c)
      exact next _ _ _ _ hR1
    by_cases c2 : z = 2
    · refine K_tabIn (k0 := 2) (tgt := 142) d_L_law_32 c2 (by decide) (by decide) rfl (by decide) ?_
      obtain ⟨r, s1, a1, s2, a2, e1, e2, hR1⟩ := h_axiom s a s' a' (xs (i + 1)) (xs (i + 2)) (xs (i + 3)) hR
      refine K_aload_n d_L_law_142 rfl ?_
      refine K_aload_n d_L_law_143 rfl ?_
      refine K_iload_n d_L_law_144 rfl ?_
      refine K_iconst (v := 1) d_L_law_145 (by decide) ?_
      refine K_iadd d_L_law_146 ?_
      refine L_ld (i + 1) d_L_law_147 (by omega) (by omega) (nI_add i 1) ?_
      refine K_aload_n d_L_law_148 rfl ?_
      refine K_iload_n d_L_law_149 rfl ?_
      refine K_iconst (v := 2) d_L_law_150 (by decide) ?_
      refine K_iadd d_L_law_151 ?_
      refine L_ld (i + 2) d_L_law_152 (by omega) (by omega) (nI_add i 2) ?_
      refine K_aload_n d_L_law_153 rfl ?_
      refine K_iload_n d_L_law_154 rfl ?_
      refine K_iconst (v := 3) d_L_law_155 (by decide) ?_
      refine K_iadd d_L_law_156 ?_
      refine L_ld (i + 3) d_L_law_157 (by omega) (by omega) (nI_add i 3) ?_
      refine K_callJV (As := [.int (xs (i + 1)), .int (xs (i + 2)), .int (xs (i + 3))]) (r := r) (ad := adL qx) (b := 0) (wj := wX s a) (wj1 := wX s1 a1) (w2 := jw cA (adL qm) (wM s' a')) (st := []) d_L_law_158 (c_X_axiom l s a _ _ _ (r, s1, a1) e1) (wX_at0 s a) rfl rfl ts_430 ts_good rfl rfl ts_4 ts_431 dy_X_axiom ts_432 ts_433 (by decide) rfl (Nat.le_of_ble_eq_true rfl) (by decide) ?_
      refine K_aload_n d_L_law_161 rfl ?_
      refine K_aload_n d_L_law_162 rfl ?_
      refine K_iload_n d_L_law_163 rfl ?_
      refine K_iconst (v := 1) d_L_law_164 (by decide) ?_
      refine K_iadd d_L_law_165 ?_
      refine L_ld (i + 1) d_L_law_166 (by omega) (by omega) (nI_add i 1) ?_
      refine K_aload_n d_L_law_167 rfl ?_
      refine K_iload_n d_L_law_168 rfl ?_
      refine K_iconst (v := 2) d_L_law_169 (by decide) ?_
      refine K_iadd d_L_law_170 ?_
      refine L_ld (i + 2) d_L_law_171 (by omega) (by omega) (nI_add i 2) ?_
      refine K_aload_n d_L_law_172 rfl ?_
      refine K_iload_n d_L_law_173 rfl ?_
      refine K_iconst (v := 3) d_L_law_174 (by decide) ?_
      refine K_iadd d_L_law_175 ?_
      refine L_ld (i + 3) d_L_law_176 (by omega) (by omega) (nI_add i 3) ?_
      refine K_callJV (As := [.int (xs (i + 1)), .int (xs (i + 2)), .int (xs (i + 3))]) (r := r) (ad := adL qm) (b := 0) (wj := wM s' a') (wj1 := wM s2 a2) (w2 := jw cA (adL qx) (wX s1 a1)) (st := [.int r]) d_L_law_177 (c_M_axiom l s' a' _ _ _ (r, s2, a2) e2) (wM_at0 s' a') rfl rfl ts_434 ts_good rfl rfl ts_278 ts_435 dy_M_axiom ts_436 ts_437 (by decide) rfl (Nat.le_of_ble_eq_true rfl) (by decide) ?_
      refine K_icmp_eq (tgt := 587) d_L_law_180 (by decide) (fun _ => ?_) (fun c => absurd rfl c)
      exact next _ _ _ _ hR1
    by_cases c3 : z = 3
    · refine K_tabIn (k0 := 3) (tgt := 185) d_L_law_32 c3 (by decide) (by decide) rfl (by decide) ?_
      obtain ⟨r, s1, a1, s2, a2, e1, e2, hR1⟩ := h_remove s a s' a' (xs (i + 1)) hR
      refine K_aload_n d_L_law_185 rfl ?_
      refine K_aload_n d_L_law_186 rfl ?_
      refine K_iload_n d_L_law_187 rfl ?_
      refine K_iconst (v := 1) d_L_law_188 (by decide) ?_
      refine K_iadd d_L_law_189 ?_
      refine L_ld (i + 1) d_L_law_190 (by omega) (by omega) (nI_add i 1) ?_
      refine K_callJV (As := [.int (xs (i + 1))]) (r := r) (ad := adL qx) (b := 0) (wj := wX s a) (wj1 := wX s1 a1) (w2 := jw cA (adL qm) (wM s' a')) (st := []) d_L_law_191 (c_X_remove l s a _ (r, s1, a1) e1) (wX_at0 s a) rfl rfl ts_438 ts_good rfl rfl ts_4 ts_439 dy_X_remove ts_440 ts_441 (by decide) rfl (Nat.le_of_ble_eq_true rfl) (by decide) ?_
      refine K_aload_n d_L_law_194 rfl ?_
      refine K_aload_n d_L_law_195 rfl ?_
      refine K_iload_n d_L_law_196 rfl ?_
      refine K_iconst (v := 1) d_L_law_197 (by decide) ?_
      refine K_iadd d_L_law_198 ?_
      refine L_ld (i + 1) d_L_law_199 (by omega) (by omega) (nI_add i 1) ?_
      refine K_callJV (As := [.int (xs (i + 1))]) (r := r) (ad := adL qm) (b := 0) (wj := wM s' a') (wj1 := wM s2 a2) (w2 := jw cA (adL qx) (wX s1 a1)) (st := [.int r]) d_L_law_200 (c_M_remove l s' a' _ (r, s2, a2) e2) (wM_at0 s' a') rfl rfl ts_442 ts_good rfl rfl ts_278 ts_443 dy_M_remove ts_444 ts_445 (by decide) rfl (Nat.le_of_ble_eq_true rfl) (by decide) ?_
      refine K_icmp_eq (tgt := 587) d_L_law_203 (by decide) (fun _ => ?_) (fun c => absurd rfl c)
      exact next _ _ _ _ hR1
    by_cases c4 : z = 4
    · refine K_tabIn (k0 := 4) (tgt := 208) d_L_law_32 c4 (by decide) (by decide) rfl (by decide) ?_
      obtain ⟨r, s1, a1, s2, a2, e1, e2, hR1⟩ := h_fuel s a s' a' (xs (i + 1)) hR
      refine K_aload_n d_L_law_208 rfl ?_
      refine K_aload_n d_L_law_209 rfl ?_
      refine K_iload_n d_L_law_210 rfl ?_
      refine K_iconst (v := 1) d_L_law_211 (by decide) ?_
      refine K_iadd d_L_law_212 ?_
      refine L_ld (i + 1) d_L_law_213 (by omega) (by omega) (nI_add i 1) ?_
      refine K_callJV (As := [.int (xs (i + 1))]) (r := r) (ad := adL qx) (b := 0) (wj := wX s a) (wj1 := wX s1 a1) (w2 := jw cA (adL qm) (wM s' a')) (st := []) d_L_law_214 (c_X_fuel l s a _ (r, s1, a1) e1) (wX_at0 s a) rfl rfl ts_446 ts_good rfl rfl ts_4 ts_447 dy_X_fuel ts_448 ts_449 (by decide) rfl (Nat.le_of_ble_eq_true rfl) (by decide) ?_
      refine K_aload_n d_L_law_217 rfl ?_
      refine K_aload_n d_L_law_218 rfl ?_
      refine K_iload_n d_L_law_219 rfl ?_
      refine K_iconst (v := 1) d_L_law_220 (by decide) ?_
      refine K_iadd d_L_law_221 ?_
      refine L_ld (i + 1) d_L_law_222 (by omega) (by omega) (nI_add i 1) ?_
      refine K_callJV (As := [.int (xs (i + 1))]) (r := r) (ad := adL qm) (b := 0) (wj := wM s' a') (wj1 := wM s2 a2) (w2 := jw cA (adL qx) (wX s1 a1)) (st := [.int r]) d_L_law_223 (c_M_fuel l s' a' _ (r, s2, a2) e2) (wM_at0 s' a') rfl rfl ts_450 ts_good rfl rfl ts_278 ts_451 dy_M_fuel ts_452 ts_453 (by decide) rfl (Nat.le_of_ble_eq_true rfl) (by decide) ?_
      refine K_icmp_eq (tgt := 587) d_L_law_226 (by decide) (fun _ => ?_) (fun c => absurd rfl c)
      exact next _ _ _ _ hR1
    by_cases c5 : z = 5
    · refine K_tabIn (k0 := 5) (tgt := 231) d_L_law_32 c5 (by decide) (by decide) rfl (by decide) ?_
      obtain ⟨r, e1, e2, hR1⟩ := h_known s a s' a' (xs (i + 1)) (xs (i + 2)) hR
      refine K_aload_n d_L_law_231 rfl ?_
      refine K_aload_n d_L_law_232 rfl ?_
      refine K_iload_n d_L_law_233 rfl ?_
      refine K_iconst (v := 1) d_L_law_234 (by decide) ?_
      refine K_iadd d_L_law_235 ?_
      refine L_ld (i + 1) d_L_law_236 (by omega) (by omega) (nI_add i 1) ?_
      refine K_aload_n d_L_law_237 rfl ?_
      refine K_iload_n d_L_law_238 rfl ?_
      refine K_iconst (v := 2) d_L_law_239 (by decide) ?_
      refine K_iadd d_L_law_240 ?_
      refine L_ld (i + 2) d_L_law_241 (by omega) (by omega) (nI_add i 2) ?_
      refine K_callJV (As := [.int (xs (i + 1)), .int (xs (i + 2))]) (r := r) (ad := adL qx) (b := 0) (wj := wX s a) (wj1 := wX s a) (w2 := jw cA (adL qm) (wM s' a')) (st := []) d_L_law_242 (c_X_known l s a _ _ r e1) (wX_at0 s a) rfl rfl ts_454 ts_good rfl rfl ts_4 ts_455 dy_X_known ts_456 ts_457 (by decide) rfl (Nat.le_of_ble_eq_true rfl) (by decide) ?_
      refine K_aload_n d_L_law_245 rfl ?_
      refine K_aload_n d_L_law_246 rfl ?_
      refine K_iload_n d_L_law_247 rfl ?_
      refine K_iconst (v := 1) d_L_law_248 (by decide) ?_
      refine K_iadd d_L_law_249 ?_
      refine L_ld (i + 1) d_L_law_250 (by omega) (by omega) (nI_add i 1) ?_
      refine K_aload_n d_L_law_251 rfl ?_
      refine K_iload_n d_L_law_252 rfl ?_
      refine K_iconst (v := 2) d_L_law_253 (by decide) ?_
      refine K_iadd d_L_law_254 ?_
      refine L_ld (i + 2) d_L_law_255 (by omega) (by omega) (nI_add i 2) ?_
      refine K_callJV (As := [.int (xs (i + 1)), .int (xs (i + 2))]) (r := r) (ad := adL qm) (b := 0) (wj := wM s' a') (wj1 := wM s' a') (w2 := jw cA (adL qx) (wX s a)) (st := [.int r]) d_L_law_256 (c_M_known l s' a' _ _ r e2) (wM_at0 s' a') rfl rfl ts_458 ts_good rfl rfl ts_278 ts_459 dy_M_known ts_460 ts_461 (by decide) rfl (Nat.le_of_ble_eq_true rfl) (by decide) ?_
      refine K_icmp_eq (tgt := 587) d_L_law_259 (by decide) (fun _ => ?_) (fun c => absurd rfl c)
      exact next _ _ _ _ hR1
    by_cases c6 : z = 6
    · refine K_tabIn (k0 := 6) (tgt := 264) d_L_law_32 c6 (by decide) (by decide) rfl (by decide) ?_
      obtain ⟨r, s1, a1, s2, a2, e1, e2, hR1⟩ := h_ask s a s' a' (xs (i + 1)) (xs (i + 2)) hR
      refine K_aload_n d_L_law_264 rfl ?_
      refine K_aload_n d_L_law_265 rfl ?_
      refine K_iload_n d_L_law_266 rfl ?_
      refine K_iconst (v := 1) d_L_law_267 (by decide) ?_
      refine K_iadd d_L_law_268 ?_
      refine L_ld (i + 1) d_L_law_269 (by omega) (by omega) (nI_add i 1) ?_
      refine K_aload_n d_L_law_270 rfl ?_
      refine K_iload_n d_L_law_271 rfl ?_
      refine K_iconst (v := 2) d_L_law_272 (by decide) ?_
      refine K_iadd d_L_law_273 ?_
      refine L_ld (i + 2) d_L_law_274 (by omega) (by omega) (nI_add i 2) ?_
      refine K_callJV (As := [.int (xs (i + 1)), .int (xs (i + 2))]) (r := r) (ad := adL qx) (b := 0) (wj := wX s a) (wj1 := wX s1 a1) (w2 := jw cA (adL qm) (wM s' a')) (st := []) d_L_law_275 (c_X_ask l s a _ _ (r, s1, a1) e1) (wX_at0 s a) rfl rfl ts_462 ts_good rfl rfl ts_4 ts_463 dy_X_ask ts_464 ts_465 (by decide) rfl (Nat.le_of_ble_eq_true rfl) (by decide) ?_
      refine K_aload_n d_L_law_278 rfl ?_
      refine K_aload_n d_L_law_279 rfl ?_
      refine K_iload_n d_L_law_280 rfl ?_
      refine K_iconst (v := 1) d_L_law_281 (by decide) ?_
      refine K_iadd d_L_law_282 ?_
      refine L_ld (i + 1) d_L_law_283 (by omega) (by omega) (nI_add i 1) ?_
      refine K_aload_n d_L_law_284 rfl ?_
      refine K_iload_n d_L_law_285 rfl ?_
      refine K_iconst (v := 2) d_L_law_286 (by decide) ?_
      refine K_iadd d_L_law_287 ?_
      refine L_ld (i + 2) d_L_law_288 (by omega) (by omega) (nI_add i 2) ?_
      refine K_callJV (As := [.int (xs (i + 1)), .int (xs (i + 2))]) (r := r) (ad := adL qm) (b := 0) (wj := wM s' a') (wj1 := wM s2 a2) (w2 := jw cA (adL qx) (wX s1 a1)) (st := [.int r]) d_L_law_289 (c_M_ask l s' a' _ _ (r, s2, a2) e2) (wM_at0 s' a') rfl rfl ts_466 ts_good rfl rfl ts_278 ts_467 dy_M_ask ts_468 ts_469 (by decide) rfl (Nat.le_of_ble_eq_true rfl) (by decide) ?_
      refine K_icmp_eq (tgt := 587) d_L_law_292 (by decide) (fun _ => ?_) (fun c => absurd rfl c)
      exact next _ _ _ _ hR1
    by_cases c7 : z = 7
    · refine K_tabIn (k0 := 7) (tgt := 297) d_L_law_32 c7 (by decide) (by decide) rfl (by decide) ?_
      obtain ⟨r, s1, a1, s2, a2, e1, e2, hR1⟩ := h_run s a s' a'  hR
      refine K_aload_n d_L_law_297 rfl ?_
      refine K_callJV (As := []) (r := r) (ad := adL qx) (b := 0) (wj := wX s a) (wj1 := wX s1 a1) (w2 := jw cA (adL qm) (wM s' a')) (st := []) d_L_law_298 (c_X_run l s a  (r, s1, a1) e1) (wX_at0 s a) rfl rfl ts_470 ts_good rfl rfl ts_4 ts_471 dy_X_run ts_472 ts_473 (by decide) rfl (Nat.le_of_ble_eq_true rfl) (by decide) ?_
      refine K_aload_n d_L_law_301 rfl ?_
      refine K_callJV (As := []) (r := r) (ad := adL qm) (b := 0) (wj := wM s' a') (wj1 := wM s2 a2) (w2 := jw cA (adL qx) (wX s1 a1)) (st := [.int r]) d_L_law_302 (c_M_run l s' a'  (r, s2, a2) e2) (wM_at0 s' a') rfl rfl ts_474 ts_good rfl rfl ts_278 ts_475 dy_M_run ts_476 ts_477 (by decide) rfl (Nat.le_of_ble_eq_true rfl) (by decide) ?_
      refine K_icmp_eq (tgt := 587) d_L_law_305 (by decide) (fun _ => ?_) (fun c => absurd rfl c)
      exact next _ _ _ _ hR1
    by_cases c8 : z = 8
    · refine K_tabIn (k0 := 8) (tgt := 310) d_L_law_32 c8 (by decide) (by decide) rfl (by decide) ?_
      obtain ⟨r, e1, e2, hR1⟩ := h_parent s a s' a' (xs (i + 1)) (xs (i + 2)) hR
      refine K_aload_n d_L_law_310 rfl ?_
      refine K_aload_n d_L_law_311 rfl ?_
      refine K_iload_n d_L_law_312 rfl ?_
      refine K_iconst (v := 1) d_L_law_313 (by decide) ?_
      refine K_iadd d_L_law_314 ?_
      refine L_ld (i + 1) d_L_law_315 (by omega) (by omega) (nI_add i 1) ?_
      refine K_aload_n d_L_law_316 rfl ?_
      refine K_iload_n d_L_law_317 rfl ?_
      refine K_iconst (v := 2) d_L_law_318 (by decide) ?_
      refine K_iadd d_L_law_319 ?_
      refine L_ld (i + 2) d_L_law_320 (by omega) (by omega) (nI_add i 2) ?_
      refine K_callJV (As := [.int (xs (i + 1)), .int (xs (i + 2))]) (r := r) (ad := adL qx) (b := 0) (wj := wX s a) (wj1 := wX s a) (w2 := jw cA (adL qm) (wM s' a')) (st := []) d_L_law_321 (c_X_parent l s a _ _ r e1) (wX_at0 s a) rfl rfl ts_478 ts_good rfl rfl ts_4 ts_479 dy_X_parent ts_480 ts_481 (by decide) rfl (Nat.le_of_ble_eq_true rfl) (by decide) ?_
      refine K_aload_n d_L_law_324 rfl ?_
      refine K_aload_n d_L_law_325 rfl ?_
      refine K_iload_n d_L_law_326 rfl ?_
      refine K_iconst (v := 1) d_L_law_327 (by decide) ?_
      refine K_iadd d_L_law_328 ?_
      refine L_ld (i + 1) d_L_law_329 (by omega) (by omega) (nI_add i 1) ?_
      refine K_aload_n d_L_law_330 rfl ?_
      refine K_iload_n d_L_law_331 rfl ?_
      refine K_iconst (v := 2) d_L_law_332 (by decide) ?_
      refine K_iadd d_L_law_333 ?_
      refine L_ld (i + 2) d_L_law_334 (by omega) (by omega) (nI_add i 2) ?_
      refine K_callJV (As := [.int (xs (i + 1)), .int (xs (i + 2))]) (r := r) (ad := adL qm) (b := 0) (wj := wM s' a') (wj1 := wM s' a') (w2 := jw cA (adL qx) (wX s a)) (st := [.int r]) d_L_law_335 (c_M_parent l s' a' _ _ r e2) (wM_at0 s' a') rfl rfl ts_482 ts_good rfl rfl ts_278 ts_483 dy_M_parent ts_484 ts_485 (by decide) rfl (Nat.le_of_ble_eq_true rfl) (by decide) ?_
      refine K_icmp_eq (tgt := 587) d_L_law_338 (by decide) (fun _ => ?_) (fun c => absurd rfl c)
      exact next _ _ _ _ hR1
    by_cases c9 : z = 9
    · refine K_tabIn (k0 := 9) (tgt := 343) d_L_law_32 c9 (by decide) (by decide) rfl (by decide) ?_
      obtain ⟨r, e1, e2, hR1⟩ := h_child s a s' a' (xs (i + 1)) (xs (i + 2)) hR
      refine K_aload_n d_L_law_343 rfl ?_
      refine K_aload_n d_L_law_344 rfl ?_
      refine K_iload_n d_L_law_345 rfl ?_
      refine K_iconst (v := 1) d_L_law_346 (by decide) ?_
      refine K_iadd d_L_law_347 ?_
      refine L_ld (i + 1) d_L_law_348 (by omega) (by omega) (nI_add i 1) ?_
      refine K_aload_n d_L_law_349 rfl ?_
      refine K_iload_n d_L_law_350 rfl ?_
      refine K_iconst (v := 2) d_L_law_351 (by decide) ?_
      refine K_iadd d_L_law_352 ?_
      refine L_ld (i + 2) d_L_law_353 (by omega) (by omega) (nI_add i 2) ?_
      refine K_callJV (As := [.int (xs (i + 1)), .int (xs (i + 2))]) (r := r) (ad := adL qx) (b := 0) (wj := wX s a) (wj1 := wX s a) (w2 := jw cA (adL qm) (wM s' a')) (st := []) d_L_law_354 (c_X_child l s a _ _ r e1) (wX_at0 s a) rfl rfl ts_486 ts_good rfl rfl ts_4 ts_487 dy_X_child ts_488 ts_489 (by decide) rfl (Nat.le_of_ble_eq_true rfl) (by decide) ?_
      refine K_aload_n d_L_law_357 rfl ?_
      refine K_aload_n d_L_law_358 rfl ?_
      refine K_iload_n d_L_law_359 rfl ?_
      refine K_iconst (v := 1) d_L_law_360 (by decide) ?_
      refine K_iadd d_L_law_361 ?_
      refine L_ld (i + 1) d_L_law_362 (by omega) (by omega) (nI_add i 1) ?_
      refine K_aload_n d_L_law_363 rfl ?_
      refine K_iload_n d_L_law_364 rfl ?_
      refine K_iconst (v := 2) d_L_law_365 (by decide) ?_
      refine K_iadd d_L_law_366 ?_
      refine L_ld (i + 2) d_L_law_367 (by omega) (by omega) (nI_add i 2) ?_
      refine K_callJV (As := [.int (xs (i + 1)), .int (xs (i + 2))]) (r := r) (ad := adL qm) (b := 0) (wj := wM s' a') (wj1 := wM s' a') (w2 := jw cA (adL qx) (wX s a)) (st := [.int r]) d_L_law_368 (c_M_child l s' a' _ _ r e2) (wM_at0 s' a') rfl rfl ts_490 ts_good rfl rfl ts_278 ts_491 dy_M_child ts_492 ts_493 (by decide) rfl (Nat.le_of_ble_eq_true rfl) (by decide) ?_
      refine K_icmp_eq (tgt := 587) d_L_law_371 (by decide) (fun _ => ?_) (fun c => absurd rfl c)
      exact next _ _ _ _ hR1
    by_cases c10 : z = 10
    · refine K_tabIn (k0 := 10) (tgt := 376) d_L_law_32 c10 (by decide) (by decide) rfl (by decide) ?_
      obtain ⟨r, e1, e2, hR1⟩ := h_equal s a s' a' (xs (i + 1)) (xs (i + 2)) hR
      refine K_aload_n d_L_law_376 rfl ?_
      refine K_aload_n d_L_law_377 rfl ?_
      refine K_iload_n d_L_law_378 rfl ?_
      refine K_iconst (v := 1) d_L_law_379 (by decide) ?_
      refine K_iadd d_L_law_380 ?_
      refine L_ld (i + 1) d_L_law_381 (by omega) (by omega) (nI_add i 1) ?_
      refine K_aload_n d_L_law_382 rfl ?_
      refine K_iload_n d_L_law_383 rfl ?_
      refine K_iconst (v := 2) d_L_law_384 (by decide) ?_
      refine K_iadd d_L_law_385 ?_
      refine L_ld (i + 2) d_L_law_386 (by omega) (by omega) (nI_add i 2) ?_
      refine K_callJV (As := [.int (xs (i + 1)), .int (xs (i + 2))]) (r := r) (ad := adL qx) (b := 0) (wj := wX s a) (wj1 := wX s a) (w2 := jw cA (adL qm) (wM s' a')) (st := []) d_L_law_387 (c_X_equal l s a _ _ r e1) (wX_at0 s a) rfl rfl ts_494 ts_good rfl rfl ts_4 ts_495 dy_X_equal ts_496 ts_497 (by decide) rfl (Nat.le_of_ble_eq_true rfl) (by decide) ?_
      refine K_aload_n d_L_law_390 rfl ?_
      refine K_aload_n d_L_law_391 rfl ?_
      refine K_iload_n d_L_law_392 rfl ?_
      refine K_iconst (v := 1) d_L_law_393 (by decide) ?_
      refine K_iadd d_L_law_394 ?_
      refine L_ld (i + 1) d_L_law_395 (by omega) (by omega) (nI_add i 1) ?_
      refine K_aload_n d_L_law_396 rfl ?_
      refine K_iload_n d_L_law_397 rfl ?_
      refine K_iconst (v := 2) d_L_law_398 (by decide) ?_
      refine K_iadd d_L_law_399 ?_
      refine L_ld (i + 2) d_L_law_400 (by omega) (by omega) (nI_add i 2) ?_
      refine K_callJV (As := [.int (xs (i + 1)), .int (xs (i + 2))]) (r := r) (ad := adL qm) (b := 0) (wj := wM s' a') (wj1 := wM s' a') (w2 := jw cA (adL qx) (wX s a)) (st := [.int r]) d_L_law_401 (c_M_equal l s' a' _ _ r e2) (wM_at0 s' a') rfl rfl ts_498 ts_good rfl rfl ts_278 ts_499 dy_M_equal ts_500 ts_501 (by decide) rfl (Nat.le_of_ble_eq_true rfl) (by decide) ?_
      refine K_icmp_eq (tgt := 587) d_L_law_404 (by decide) (fun _ => ?_) (fun c => absurd rfl c)
      exact next _ _ _ _ hR1
    by_cases c11 : z = 11
    · refine K_tabIn (k0 := 11) (tgt := 409) d_L_law_32 c11 (by decide) (by decide) rfl (by decide) ?_
      obtain ⟨r, e1, e2, hR1⟩ := h_empty s a s' a' (xs (i + 1)) hR
      refine K_aload_n d_L_law_409 rfl ?_
      refine K_aload_n d_L_law_410 rfl ?_
      refine K_iload_n d_L_law_411 rfl ?_
      refine K_iconst (v := 1) d_L_law_412 (by decide) ?_
      refine K_iadd d_L_law_413 ?_
      refine L_ld (i + 1) d_L_law_414 (by omega) (by omega) (nI_add i 1) ?_
      refine K_callJV (As := [.int (xs (i + 1))]) (r := r) (ad := adL qx) (b := 0) (wj := wX s a) (wj1 := wX s a) (w2 := jw cA (adL qm) (wM s' a')) (st := []) d_L_law_415 (c_X_empty l s a _ r e1) (wX_at0 s a) rfl rfl ts_502 ts_good rfl rfl ts_4 ts_503 dy_X_empty ts_504 ts_505 (by decide) rfl (Nat.le_of_ble_eq_true rfl) (by decide) ?_
      refine K_aload_n d_L_law_418 rfl ?_
      refine K_aload_n d_L_law_419 rfl ?_
      refine K_iload_n d_L_law_420 rfl ?_
      refine K_iconst (v := 1) d_L_law_421 (by decide) ?_
      refine K_iadd d_L_law_422 ?_
      refine L_ld (i + 1) d_L_law_423 (by omega) (by omega) (nI_add i 1) ?_
      refine K_callJV (As := [.int (xs (i + 1))]) (r := r) (ad := adL qm) (b := 0) (wj := wM s' a') (wj1 := wM s' a') (w2 := jw cA (adL qx) (wX s a)) (st := [.int r]) d_L_law_424 (c_M_empty l s' a' _ r e2) (wM_at0 s' a') rfl rfl ts_506 ts_good rfl rfl ts_278 ts_507 dy_M_empty ts_508 ts_509 (by decide) rfl (Nat.le_of_ble_eq_true rfl) (by decide) ?_
      refine K_icmp_eq (tgt := 587) d_L_law_427 (by decide) (fun _ => ?_) (fun c => absurd rfl c)
      exact next _ _ _ _ hR1
    by_cases c12 : z = 12
    · refine K_tabIn (k0 := 12) (tgt := 432) d_L_law_32 c12 (by decide) (by decide) rfl (by decide) ?_
      obtain ⟨r, e1, e2, hR1⟩ := h_open s a s' a' (xs (i + 1)) hR
      refine K_aload_n d_L_law_432 rfl ?_
      refine K_aload_n d_L_law_433 rfl ?_
      refine K_iload_n d_L_law_434 rfl ?_
      refine K_iconst (v := 1) d_L_law_435 (by decide) ?_
      refine K_iadd d_L_law_436 ?_
      refine L_ld (i + 1) d_L_law_437 (by omega) (by omega) (nI_add i 1) ?_
      refine K_callJV (As := [.int (xs (i + 1))]) (r := r) (ad := adL qx) (b := 0) (wj := wX s a) (wj1 := wX s a) (w2 := jw cA (adL qm) (wM s' a')) (st := []) d_L_law_438 (c_X_open l s a _ r e1) (wX_at0 s a) rfl rfl ts_510 ts_good rfl rfl ts_4 ts_511 dy_X_open ts_512 ts_513 (by decide) rfl (Nat.le_of_ble_eq_true rfl) (by decide) ?_
      refine K_aload_n d_L_law_441 rfl ?_
      refine K_aload_n d_L_law_442 rfl ?_
      refine K_iload_n d_L_law_443 rfl ?_
      refine K_iconst (v := 1) d_L_law_444 (by decide) ?_
      refine K_iadd d_L_law_445 ?_
      refine L_ld (i + 1) d_L_law_446 (by omega) (by omega) (nI_add i 1) ?_
      refine K_callJV (As := [.int (xs (i + 1))]) (r := r) (ad := adL qm) (b := 0) (wj := wM s' a') (wj1 := wM s' a') (w2 := jw cA (adL qx) (wX s a)) (st := [.int r]) d_L_law_447 (c_M_open l s' a' _ r e2) (wM_at0 s' a') rfl rfl ts_514 ts_good rfl rfl ts_278 ts_515 dy_M_open ts_516 ts_517 (by decide) rfl (Nat.le_of_ble_eq_true rfl) (by decide) ?_
      refine K_icmp_eq (tgt := 587) d_L_law_450 (by decide) (fun _ => ?_) (fun c => absurd rfl c)
      exact next _ _ _ _ hR1
    by_cases c13 : z = 13
    · refine K_tabIn (k0 := 13) (tgt := 455) d_L_law_32 c13 (by decide) (by decide) rfl (by decide) ?_
      obtain ⟨r, s1, a1, s2, a2, e1, e2, hR1⟩ := h_put s a s' a' (xs (i + 1)) (xs (i + 2)) hR
      refine K_aload_n d_L_law_455 rfl ?_
      refine K_aload_n d_L_law_456 rfl ?_
      refine K_iload_n d_L_law_457 rfl ?_
      refine K_iconst (v := 1) d_L_law_458 (by decide) ?_
      refine K_iadd d_L_law_459 ?_
      refine L_ld (i + 1) d_L_law_460 (by omega) (by omega) (nI_add i 1) ?_
      refine K_aload_n d_L_law_461 rfl ?_
      refine K_iload_n d_L_law_462 rfl ?_
      refine K_iconst (v := 2) d_L_law_463 (by decide) ?_
      refine K_iadd d_L_law_464 ?_
      refine L_ld (i + 2) d_L_law_465 (by omega) (by omega) (nI_add i 2) ?_
      refine K_callJV (As := [.int (xs (i + 1)), .int (xs (i + 2))]) (r := r) (ad := adL qx) (b := 0) (wj := wX s a) (wj1 := wX s1 a1) (w2 := jw cA (adL qm) (wM s' a')) (st := []) d_L_law_466 (c_X_put l s a _ _ (r, s1, a1) e1) (wX_at0 s a) rfl rfl ts_518 ts_good rfl rfl ts_4 ts_519 dy_X_put ts_520 ts_521 (by decide) rfl (Nat.le_of_ble_eq_true rfl) (by decide) ?_
      refine K_aload_n d_L_law_469 rfl ?_
      refine K_aload_n d_L_law_470 rfl ?_
      refine K_iload_n d_L_law_471 rfl ?_
      refine K_iconst (v := 1) d_L_law_472 (by decide) ?_
      refine K_iadd d_L_law_473 ?_
      refine L_ld (i + 1) d_L_law_474 (by omega) (by omega) (nI_add i 1) ?_
      refine K_aload_n d_L_law_475 rfl ?_
      refine K_iload_n d_L_law_476 rfl ?_
      refine K_iconst (v := 2) d_L_law_477 (by decide) ?_
      refine K_iadd d_L_law_478 ?_
      refine L_ld (i + 2) d_L_law_479 (by omega) (by omega) (nI_add i 2) ?_
      refine K_callJV (As := [.int (xs (i + 1)), .int (xs (i + 2))]) (r := r) (ad := adL qm) (b := 0) (wj := wM s' a') (wj1 := wM s2 a2) (w2 := jw cA (adL qx) (wX s1 a1)) (st := [.int r]) d_L_law_480 (c_M_put l s' a' _ _ (r, s2, a2) e2) (wM_at0 s' a') rfl rfl ts_522 ts_good rfl rfl ts_278 ts_523 dy_M_put ts_524 ts_525 (by decide) rfl (Nat.le_of_ble_eq_true rfl) (by decide) ?_
      refine K_icmp_eq (tgt := 587) d_L_law_483 (by decide) (fun _ => ?_) (fun c => absurd rfl c)
      exact next _ _ _ _ hR1
    by_cases c14 : z = 14
    · refine K_tabIn (k0 := 14) (tgt := 488) d_L_law_32 c14 (by decide) (by decide) rfl (by decide) ?_
      obtain ⟨r, s1, a1, s2, a2, e1, e2, hR1⟩ := h_type s a s' a' (xs (i + 1)) (xs (i + 2)) hR
      refine K_aload_n d_L_law_488 rfl ?_
      refine K_aload_n d_L_law_489 rfl ?_
      refine K_iload_n d_L_law_490 rfl ?_
      refine K_iconst (v := 1) d_L_law_491 (by decide) ?_
      refine K_iadd d_L_law_492 ?_
      refine L_ld (i + 1) d_L_law_493 (by omega) (by omega) (nI_add i 1) ?_
      refine K_aload_n d_L_law_494 rfl ?_
      refine K_iload_n d_L_law_495 rfl ?_
      refine K_iconst (v := 2) d_L_law_496 (by decide) ?_
      refine K_iadd d_L_law_497 ?_
      refine L_ld (i + 2) d_L_law_498 (by omega) (by omega) (nI_add i 2) ?_
      refine K_callJV (As := [.int (xs (i + 1)), .int (xs (i + 2))]) (r := r) (ad := adL qx) (b := 0) (wj := wX s a) (wj1 := wX s1 a1) (w2 := jw cA (adL qm) (wM s' a')) (st := []) d_L_law_499 (c_X_type l s a _ _ (r, s1, a1) e1) (wX_at0 s a) rfl rfl ts_526 ts_good rfl rfl ts_4 ts_527 dy_X_type ts_528 ts_529 (by decide) rfl (Nat.le_of_ble_eq_true rfl) (by decide) ?_
      refine K_aload_n d_L_law_502 rfl ?_
      refine K_aload_n d_L_law_503 rfl ?_
      refine K_iload_n d_L_law_504 rfl ?_
      refine K_iconst (v := 1) d_L_law_505 (by decide) ?_
      refine K_iadd d_L_law_506 ?_
      refine L_ld (i + 1) d_L_law_507 (by omega) (by omega) (nI_add i 1) ?_
      refine K_aload_n d_L_law_508 rfl ?_
      refine K_iload_n d_L_law_509 rfl ?_
      refine K_iconst (v := 2) d_L_law_510 (by decide) ?_
      refine K_iadd d_L_law_511 ?_
      refine L_ld (i + 2) d_L_law_512 (by omega) (by omega) (nI_add i 2) ?_
      refine K_callJV (As := [.int (xs (i + 1)), .int (xs (i + 2))]) (r := r) (ad := adL qm) (b := 0) (wj := wM s' a') (wj1 := wM s2 a2) (w2 := jw cA (adL qx) (wX s1 a1)) (st := [.int r]) d_L_law_513 (c_M_type l s' a' _ _ (r, s2, a2) e2) (wM_at0 s' a') rfl rfl ts_530 ts_good rfl rfl ts_278 ts_531 dy_M_type ts_532 ts_533 (by decide) rfl (Nat.le_of_ble_eq_true rfl) (by decide) ?_
      refine K_icmp_eq (tgt := 587) d_L_law_516 (by decide) (fun _ => ?_) (fun c => absurd rfl c)
      exact next _ _ _ _ hR1
    by_cases c15 : z = 15
    · refine K_tabIn (k0 := 15) (tgt := 521) d_L_law_32 c15 (by decide) (by decide) rfl (by decide) ?_
      obtain ⟨r, s1, a1, s2, a2, e1, e2, hR1⟩ := h_trace s a s' a' (xs (i + 1)) (xs (i + 2)) (xs (i + 3)) hR
      refine K_aload_n d_L_law_521 rfl ?_
      refine K_aload_n d_L_law_522 rfl ?_
      refine K_iload_n d_L_law_523 rfl ?_
      refine K_iconst (v := 1) d_L_law_524 (by decide) ?_
      refine K_iadd d_L_law_525 ?_
      refine L_ld (i + 1) d_L_law_526 (by omega) (by omega) (nI_add i 1) ?_
      refine K_aload_n d_L_law_527 rfl ?_
      refine K_iload_n d_L_law_528 rfl ?_
      refine K_iconst (v := 2) d_L_law_529 (by decide) ?_
      refine K_iadd d_L_law_530 ?_
      refine L_ld (i + 2) d_L_law_531 (by omega) (by omega) (nI_add i 2) ?_
      refine K_aload_n d_L_law_532 rfl ?_
      refine K_iload_n d_L_law_533 rfl ?_
      refine K_iconst (v := 3) d_L_law_534 (by decide) ?_
      refine K_iadd d_L_law_535 ?_
      refine L_ld (i + 3) d_L_law_536 (by omega) (by omega) (nI_add i 3) ?_
      refine K_callJV (As := [.int (xs (i + 1)), .int (xs (i + 2)), .int (xs (i + 3))]) (r := r) (ad := adL qx) (b := 0) (wj := wX s a) (wj1 := wX s1 a1) (w2 := jw cA (adL qm) (wM s' a')) (st := []) d_L_law_537 (c_X_trace l s a _ _ _ (r, s1, a1) e1) (wX_at0 s a) rfl rfl ts_534 ts_good rfl rfl ts_4 ts_535 dy_X_trace ts_536 ts_537 (by decide) rfl (Nat.le_of_ble_eq_true rfl) (by decide) ?_
      refine K_aload_n d_L_law_540 rfl ?_
      refine K_aload_n d_L_law_541 rfl ?_
      refine K_iload_n d_L_law_542 rfl ?_
      refine K_iconst (v := 1) d_L_law_543 (by decide) ?_
      refine K_iadd d_L_law_544 ?_
      refine L_ld (i + 1) d_L_law_545 (by omega) (by omega) (nI_add i 1) ?_
      refine K_aload_n d_L_law_546 rfl ?_
      refine K_iload_n d_L_law_547 rfl ?_
      refine K_iconst (v := 2) d_L_law_548 (by decide) ?_
      refine K_iadd d_L_law_549 ?_
      refine L_ld (i + 2) d_L_law_550 (by omega) (by omega) (nI_add i 2) ?_
      refine K_aload_n d_L_law_551 rfl ?_
      refine K_iload_n d_L_law_552 rfl ?_
      refine K_iconst (v := 3) d_L_law_553 (by decide) ?_
      refine K_iadd d_L_law_554 ?_
      refine L_ld (i + 3) d_L_law_555 (by omega) (by omega) (nI_add i 3) ?_
      refine K_callJV (As := [.int (xs (i + 1)), .int (xs (i + 2)), .int (xs (i + 3))]) (r := r) (ad := adL qm) (b := 0) (wj := wM s' a') (wj1 := wM s2 a2) (w2 := jw cA (adL qx) (wX s1 a1)) (st := [.int r]) d_L_law_556 (c_M_trace l s' a' _ _ _ (r, s2, a2) e2) (wM_at0 s' a') rfl rfl ts_538 ts_good rfl rfl ts_278 ts_539 dy_M_trace ts_540 ts_541 (by decide) rfl (Nat.le_of_ble_eq_true rfl) (by decide) ?_
      refine K_icmp_eq (tgt := 587) d_L_law_559 (by decide) (fun _ => ?_) (fun c => absurd rfl c)
      exact next _ _ _ _ hR1
    by_cases c16 : z = 16
    · refine K_tabIn (k0 := 16) (tgt := 564) d_L_law_32 c16 (by decide) (by decide) rfl (by decide) ?_
      obtain ⟨r, e1, e2, hR1⟩ := h_count s a s' a' (xs (i + 1)) hR
      refine K_aload_n d_L_law_564 rfl ?_
      refine K_aload_n d_L_law_565 rfl ?_
      refine K_iload_n d_L_law_566 rfl ?_
      refine K_iconst (v := 1) d_L_law_567 (by decide) ?_
      refine K_iadd d_L_law_568 ?_
      refine L_ld (i + 1) d_L_law_569 (by omega) (by omega) (nI_add i 1) ?_
      refine K_callJV (As := [.int (xs (i + 1))]) (r := r) (ad := adL qx) (b := 0) (wj := wX s a) (wj1 := wX s a) (w2 := jw cA (adL qm) (wM s' a')) (st := []) d_L_law_570 (c_X_count l s a _ r e1) (wX_at0 s a) rfl rfl ts_542 ts_good rfl rfl ts_4 ts_543 dy_X_count ts_544 ts_545 (by decide) rfl (Nat.le_of_ble_eq_true rfl) (by decide) ?_
      refine K_aload_n d_L_law_573 rfl ?_
      refine K_aload_n d_L_law_574 rfl ?_
      refine K_iload_n d_L_law_575 rfl ?_
      refine K_iconst (v := 1) d_L_law_576 (by decide) ?_
      refine K_iadd d_L_law_577 ?_
      refine L_ld (i + 1) d_L_law_578 (by omega) (by omega) (nI_add i 1) ?_
      refine K_callJV (As := [.int (xs (i + 1))]) (r := r) (ad := adL qm) (b := 0) (wj := wM s' a') (wj1 := wM s' a') (w2 := jw cA (adL qx) (wX s a)) (st := [.int r]) d_L_law_579 (c_M_count l s' a' _ r e2) (wM_at0 s' a') rfl rfl ts_546 ts_good rfl rfl ts_278 ts_547 dy_M_count ts_548 ts_549 (by decide) rfl (Nat.le_of_ble_eq_true rfl) (by decide) ?_
      refine K_icmp_eq (tgt := 587) d_L_law_582 (by decide) (fun _ => ?_) (fun c => absurd rfl c)
      exact next _ _ _ _ hR1
    refine K_tableOut (tgt := 587) d_L_law_32 (j_out17 c0 c1 c2 c3 c4 c5 c6 c7 c8 c9 c10 c11 c12 c13 c14 c15 c16) (by decide) ?_
    exact next s a s' a' hR
set_option maxRecDepth 100000 in
set_option maxHeartbeats 8000000 in
theorem law_start {Rel : jRel} (h0 : ∀ f : Nat → Int32, (∀ j, j < 420 → f j = 3) → Rel s0X a0X s0M (a0M f)) (hsim : SimAll Rel) (l : Launch) (nm : String) (D : va_G) (cA : Nat → ClassId) (b L : Nat) (xs : Nat → Int32) (hL : L ≤ 2048) : LK l nm D cA b L xs 0 [some (.ref b), none, none, none] [] [] 0 0 := by
  refine K_new (fs := [.null, .null, .null, .null, .null, .int 0, .int 0, .int 0, .int 0]) d_L_law_0 (ci := 0) rfl in_0 ty_X tyok_X ts_550 ts_551 ts_4 df_X (by decide) (by decide) (fun q0 => ?_)
  refine K_eq (ws' := [(q0, .inr (0, [.null, .null, .null, .null, .null, .int 0, .int 0, .int 0, .int 0]))]) rfl rfl rfl rfl ?_
  refine K_dup d_L_law_3 rfl ?_
  refine K_callI (As := []) (st := [.ref q0]) (wc := [(q0, .inr (0, [.null, .null, .null, .null, .null, .int 0, .int 0, .int 0, .int 0]))]) (wr := []) [0] [] d_L_law_4 (c_X_init l D cA q0) rfl rfl (by decide) (by decide) (by decide) ts_552 ts_good rfl rfl ts_4 ts_553 dy_X_init rfl ts_554 (by decide) rfl (Nat.le_of_ble_eq_true rfl) (by decide) (fun w1 hw => ?_)
  obtain ⟨q1, q2, q3, q4, q5, q6, q7, q8, q9, q10, q11, q12, rfl⟩ := hw
  refine K_eq (ws' := jw cA (adL [q0, q1, q2, q3, q4, q5, q6, q7, q8, q9, q10, q11, q12]) (wX s0X a0X)) rfl rfl rfl rfl ?_
  refine K_astore_n d_L_law_7 (by decide) ?_
  refine K_new (fs := [.int 0, .int 0, .int 0, .int 0, .int 0, .int 0, .int 0, .null, .null, .null, .null, .null, .null, .null, .null, .null, .null, .null, .null, .int 0, .null, .null, .int 0]) d_L_law_8 (ci := 5) rfl in_5 ty_M tyok_M ts_555 ts_556 ts_278 df_M (by decide) (by decide) (fun r0 => ?_)
  refine K_dup d_L_law_11 rfl ?_
  refine K_callI (As := []) (st := [.ref r0]) (wc := [(r0, .inr (5, [.int 0, .int 0, .int 0, .int 0, .int 0, .int 0, .int 0, .null, .null, .null, .null, .null, .null, .null, .null, .null, .null, .null, .null, .int 0, .null, .null, .int 0]))]) (wr := (jw cA (adL [q0, q1, q2, q3, q4, q5, q6, q7, q8, q9, q10, q11, q12]) (wX s0X a0X))) [13] [0, 1, 2, 3, 4, 5, 6, 7, 8, 9, 10, 11, 12] d_L_law_12 (c_M_init l D cA r0) rfl rfl (by decide) (by decide) (by decide) ts_557 ts_good rfl rfl ts_278 ts_558 dy_M_init rfl ts_559 (by decide) rfl (Nat.le_of_ble_eq_true rfl) (by decide) (fun w1 hw => ?_)
  obtain ⟨r1, r2, r3, r4, r5, r6, r7, r8, r9, r10, r11, r12, r13, r14, f, hf, rfl⟩ := hw
  refine K_eq (ws' := (jw cA (adL [q0, q1, q2, q3, q4, q5, q6, q7, q8, q9, q10, q11, q12]) (wX s0X a0X)) ++ (jw cA (adL [r0, r1, r2, r3, r4, r5, r6, r7, r8, r9, r10, r11, r12, r13, r14]) (wM s0M (a0M f)))) rfl rfl rfl rfl ?_
  refine K_astore_n d_L_law_15 (by decide) ?_
  refine K_iconst (v := 0) d_L_law_16 (by decide) ?_
  refine K_istore_n d_L_law_17 (by decide) ?_
  exact law_loop hsim l nm D cA b L xs hL [q0, q1, q2, q3, q4, q5, q6, q7, q8, q9, q10, q11, q12] [r0, r1, r2, r3, r4, r5, r6, r7, r8, r9, r10, r11, r12, r13, r14] (L + 1) 0 (by omega) (by omega) s0X a0X s0M (a0M f) (h0 f hf)

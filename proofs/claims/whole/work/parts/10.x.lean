abbrev rm_X_bit : Room := { frames := 0, cells := 0, slots := 0, locals := 0 }
abbrev K_X_bit (l : Launch) := JW l vwCl NsG TsG "ClassifySort" prog_1_method_24_code 1 (some .int) rm_X_bit
def m_X_bit (p0 : Int32) : Option (Int32) := some (((1 : Int32) <<< (p0 &&& 31)))
set_option maxRecDepth 100000 in
set_option maxHeartbeats 4000000 in
theorem c_X_bit (l : Launch) (ws : jW) (p0 : Int32) (r : Int32) (h : m_X_bit p0 = some r) : JMet l vwCl NsG (.code y_X_bit prog_1_method_24_code 1 (some .int) :: TsG) y_X_bit rm_X_bit [.int p0] ws (fun v w => v = some (.int r) ∧ w = ws) := by
  refine J_enter (by decide +kernel) rfl (Nat.le_of_ble_eq_true rfl) ?_
  unfold m_X_bit at h
  refine J_eq (ls' := [some (.int p0)]) rfl rfl rfl rfl ?_
  refine J_iconst (v := (1 : Int32)) d_X_bit_0 (by decide) ?_
  refine J_iload_n d_X_bit_1 rfl ?_
  refine J_ishl d_X_bit_2 ?_
  exact J_iret d_X_bit_3 rfl rfl (by cases h; exact ⟨rfl, rfl⟩)
abbrev rm_X_has : Room := { frames := 1, cells := 0, slots := 0, locals := 20 }
abbrev K_X_has (l : Launch) := JW l vwCl NsG TsG "ClassifySort" prog_1_method_25_code 2 (some .boolean) rm_X_has
def m_X_has (p0 : Int32) (p1 : Int32) : Option (Int32) := jb (m_X_bit p1) (fun v2 => jb (if (p0 &&& v2) = (0 : Int32) then some (0 : Int32) else some (1 : Int32)) (fun b3 => jg (jz b3) (some (b3))))
set_option maxRecDepth 100000 in
set_option maxHeartbeats 4000000 in
theorem c_X_has (l : Launch) (ws : jW) (p0 : Int32) (p1 : Int32) (r : Int32) (h : m_X_has p0 p1 = some r) : JMet l vwCl NsG (.code y_X_has prog_1_method_25_code 2 (some .boolean) :: TsG) y_X_has rm_X_has [.int p0, .int p1] ws (fun v w => v = some (.int r) ∧ w = ws) := by
  refine J_enter (by decide +kernel) rfl (Nat.le_of_ble_eq_true rfl) ?_
  unfold m_X_has at h
  refine J_eq (ls' := [some (.int p0), some (.int p1)]) rfl rfl rfl rfl ?_
  refine J_iload_n d_X_has_0 rfl ?_
  refine J_iload_n d_X_has_1 rfl ?_
  obtain ⟨v2, e1, h⟩ := jb_some h
  refine J_cSi1 d_X_has_2 (c_X_bit l _ _ _ e1) ts_3 ts_good rfl rfl ts_4 ts_7 dy_X_bit (by decide) (Nat.le_of_ble_eq_true rfl) ts_5 ?_
  refine J_iand d_X_has_5 ?_
  obtain ⟨b3, hb3, h⟩ := jb_some h
  have kb3 : K_X_has l 14 [some (.int p0), some (.int p1)] [.int b3] ws (fun v w => v = some (.int r) ∧ w = ws) := by
    obtain ⟨g, h⟩ := jg_some h
    exact J_iret d_X_has_14 rfl (jz_nar g) (by cases h; exact ⟨rfl, rfl⟩)
  clear h
  have h := hb3
  refine J_if_eq (tgt := 13) d_X_has_6 (by decide) (fun c => ?_) (fun c => ?_)
  · have h := j_ifp c h
    refine J_iconst (v := (0 : Int32)) d_X_has_13 (by decide) ?_
    cases h
    exact kb3
  · have h := j_ifn c h
    refine J_iconst (v := (1 : Int32)) d_X_has_9 (by decide) ?_
    refine J_goto (tgt := 14) d_X_has_10 (by decide) ?_
    cases h
    exact kb3
abbrev rm_XK_tellYes : Room := { frames := 2, cells := 0, slots := 0, locals := 41 }
abbrev K_XK_tellYes (l : Launch) := JW l vwCl NsG TsG "ClassifySort$Knowledge" prog_3_method_11_code 6 none rm_XK_tellYes
def L_XK_tellYes_32 (c3 : Int32) (c4 : Int32) (k87 : jS → jB → Option (jS × jB)) : Nat → jS → jB → Int32 → Option (jS × jB)
  | 0, _, _, _ => none
  | f + 1, s, a, x5 => (if (21 : Int32) ≤ x5 then k87 (s) (a) else jb (m_X_has c3 x5) (fun v4 => (if v4 = (0 : Int32) then jb (m_X_has c4 x5) (fun v6 => (if v6 = (0 : Int32) then L_XK_tellYes_32 c3 c4 k87 f (s) (a) ((x5 + (1 : Int32))) else jg (jin x5 21) (jg (jin x5 21) (L_XK_tellYes_32 c3 c4 k87 f (s) ((va_up a 8 (upd (a 8) (x5).toNatClampNeg (((a 8) (x5).toNatClampNeg) ||| c3)))) ((x5 + (1 : Int32))))))) else jg (jin x5 21) (jg (jin x5 21) (jb (m_X_has c4 x5) (fun v8 => (if v8 = (0 : Int32) then L_XK_tellYes_32 c3 c4 k87 f (s) ((va_up a 7 (upd (a 7) (x5).toNatClampNeg (((a 7) (x5).toNatClampNeg) ||| c4)))) ((x5 + (1 : Int32))) else jg (jin x5 21) (jg (jin x5 21) (L_XK_tellYes_32 c3 c4 k87 f (s) ((va_up (va_up a 7 (upd (a 7) (x5).toNatClampNeg (((a 7) (x5).toNatClampNeg) ||| c4))) 8 (upd ((va_up a 7 (upd (a 7) (x5).toNatClampNeg (((a 7) (x5).toNatClampNeg) ||| c4))) 8) (x5).toNatClampNeg ((((va_up a 7 (upd (a 7) (x5).toNatClampNeg (((a 7) (x5).toNatClampNeg) ||| c4))) 8) (x5).toNatClampNeg) ||| c3)))) ((x5 + (1 : Int32))))))))))))
set_option maxRecDepth 100000 in
set_option maxHeartbeats 4000000 in
theorem JL_XK_tellYes_32 (l : Launch) (c3 : Int32) (c4 : Int32) (k87 : jS → jB → Option (jS × jB)) (r : jS × jB) (hk87 : ∀ (s : jS) (a : jB) (o1 : Option Value) (o2 : Option Value) (o5 : Option Value), k87 s a = some r → K_XK_tellYes l 87 [some (.ref 6), o1, o2, some (.int c3), some (.int c4), o5] [] (wX s a) (fun v w => v = none ∧ w = wX r.1 r.2)) : ∀ (f : Nat), ∀ (s : jS) (a : jB) (x5 : Int32) (o1 : Option Value) (o2 : Option Value), L_XK_tellYes_32 c3 c4 k87 f s a x5 = some r → K_XK_tellYes l 32 [some (.ref 6), o1, o2, some (.int c3), some (.int c4), some (.int x5)] [] (wX s a) (fun v w => v = none ∧ w = wX r.1 r.2) := by
  intro f
  induction f with
  | zero =>
    intro s a x5 o1 o2 h
    cases h
  | succ f ih =>
    intro s a x5 o1 o2 h
    rw [L_XK_tellYes_32] at h
    refine J_iload d_XK_tellYes_32 rfl ?_
    refine J_bipush (v := (21 : Int32)) d_XK_tellYes_34 (by decide) ?_
    refine J_icmp_ge (tgt := 87) d_XK_tellYes_36 (by decide) (fun c => ?_) (fun c => ?_)
    · have h := j_ifp c h
      exact hk87 _ _ _ _ _ h
    · have h := j_ifn c h
      refine J_iload_n d_XK_tellYes_39 rfl ?_
      refine J_iload d_XK_tellYes_40 rfl ?_
      obtain ⟨v4, e3, h⟩ := jb_some h
      refine J_cSi2N d_XK_tellYes_42 (c_X_has l _ _ _ _ e3) ts_8 ts_good rfl rfl ts_4 ns_1 dy_X_has (by decide) (Nat.le_of_ble_eq_true rfl) ts_9 ?_
      refine J_if_eq (tgt := 60) d_XK_tellYes_45 (by decide) (fun c => ?_) (fun c => ?_)
      · have h := j_ifp c h
        refine J_iload d_XK_tellYes_60 rfl ?_
        refine J_iload d_XK_tellYes_62 rfl ?_
        obtain ⟨v6, e5, h⟩ := jb_some h
        refine J_cSi2N d_XK_tellYes_64 (c_X_has l _ _ _ _ e5) ts_8 ts_good rfl rfl ts_4 ns_1 dy_X_has (by decide) (Nat.le_of_ble_eq_true rfl) ts_9 ?_
        refine J_if_eq (tgt := 81) d_XK_tellYes_67 (by decide) (fun c => ?_) (fun c => ?_)
        · have h := j_ifp c h
          refine J_iinc (v := (x5 + (1 : Int32))) d_XK_tellYes_81 rfl (by first | rfl | decide) (by decide) ?_
          refine J_goto (tgt := 32) d_XK_tellYes_84 (by decide) ?_
          exact ih _ _ _ _ _ h
        · have h := j_ifn c h
          refine J_aload_n d_XK_tellYes_70 rfl ?_
          refine J_get (j := 1) (v := .ref 8) d_XK_tellYes_71 (wX_at6 _ _) rfl in_3 (by decide) ts_6 rfl ?_
          refine J_iload d_XK_tellYes_74 rfl ?_
          refine J_dup2 d_XK_tellYes_76 rfl rfl ?_
          obtain ⟨g, h⟩ := jg_some h
          refine J_iald (f := (a 8)) d_XK_tellYes_77 (wX_at8 _ _) (jin_in g) ?_
          refine J_iload_n d_XK_tellYes_78 rfl ?_
          refine J_ior d_XK_tellYes_79 ?_
          obtain ⟨g, h⟩ := jg_some h
          refine J_iast (f := (a 8)) d_XK_tellYes_80 (wX_at8 _ _) (jin_in g) ?_
          refine J_eq (ws' := wX s (va_up a 8 (upd (a 8) (x5).toNatClampNeg (((a 8) (x5).toNatClampNeg) ||| c3)))) rfl rfl rfl (wX_ast8 _ _ _) ?_
          refine J_iinc (v := (x5 + (1 : Int32))) d_XK_tellYes_81 rfl (by first | rfl | decide) (by decide) ?_
          refine J_goto (tgt := 32) d_XK_tellYes_84 (by decide) ?_
          exact ih _ _ _ _ _ h
      · have h := j_ifn c h
        refine J_aload_n d_XK_tellYes_48 rfl ?_
        refine J_get (j := 0) (v := .ref 7) d_XK_tellYes_49 (wX_at6 _ _) rfl in_3 (by decide) ts_2 rfl ?_
        refine J_iload d_XK_tellYes_52 rfl ?_
        refine J_dup2 d_XK_tellYes_54 rfl rfl ?_
        obtain ⟨g, h⟩ := jg_some h
        refine J_iald (f := (a 7)) d_XK_tellYes_55 (wX_at7 _ _) (jin_in g) ?_
        refine J_iload d_XK_tellYes_56 rfl ?_
        refine J_ior d_XK_tellYes_58 ?_
        obtain ⟨g, h⟩ := jg_some h
        refine J_iast (f := (a 7)) d_XK_tellYes_59 (wX_at7 _ _) (jin_in g) ?_
        refine J_eq (ws' := wX s (va_up a 7 (upd (a 7) (x5).toNatClampNeg (((a 7) (x5).toNatClampNeg) ||| c4)))) rfl rfl rfl (wX_ast7 _ _ _) ?_
        refine J_iload d_XK_tellYes_60 rfl ?_
        refine J_iload d_XK_tellYes_62 rfl ?_
        obtain ⟨v8, e7, h⟩ := jb_some h
        refine J_cSi2N d_XK_tellYes_64 (c_X_has l _ _ _ _ e7) ts_8 ts_good rfl rfl ts_4 ns_1 dy_X_has (by decide) (Nat.le_of_ble_eq_true rfl) ts_9 ?_
        refine J_if_eq (tgt := 81) d_XK_tellYes_67 (by decide) (fun c => ?_) (fun c => ?_)
        · have h := j_ifp c h
          refine J_iinc (v := (x5 + (1 : Int32))) d_XK_tellYes_81 rfl (by first | rfl | decide) (by decide) ?_
          refine J_goto (tgt := 32) d_XK_tellYes_84 (by decide) ?_
          exact ih _ _ _ _ _ h
        · have h := j_ifn c h
          refine J_aload_n d_XK_tellYes_70 rfl ?_
          refine J_get (j := 1) (v := .ref 8) d_XK_tellYes_71 (wX_at6 _ _) rfl in_3 (by decide) ts_6 rfl ?_
          refine J_iload d_XK_tellYes_74 rfl ?_
          refine J_dup2 d_XK_tellYes_76 rfl rfl ?_
          obtain ⟨g, h⟩ := jg_some h
          refine J_iald (f := ((va_up a 7 (upd (a 7) (x5).toNatClampNeg (((a 7) (x5).toNatClampNeg) ||| c4))) 8)) d_XK_tellYes_77 (wX_at8 _ _) (jin_in g) ?_
          refine J_iload_n d_XK_tellYes_78 rfl ?_
          refine J_ior d_XK_tellYes_79 ?_
          obtain ⟨g, h⟩ := jg_some h
          refine J_iast (f := ((va_up a 7 (upd (a 7) (x5).toNatClampNeg (((a 7) (x5).toNatClampNeg) ||| c4))) 8)) d_XK_tellYes_80 (wX_at8 _ _) (jin_in g) ?_
          refine J_eq (ws' := wX s (va_up (va_up a 7 (upd (a 7) (x5).toNatClampNeg (((a 7) (x5).toNatClampNeg) ||| c4))) 8 (upd ((va_up a 7 (upd (a 7) (x5).toNatClampNeg (((a 7) (x5).toNatClampNeg) ||| c4))) 8) (x5).toNatClampNeg ((((va_up a 7 (upd (a 7) (x5).toNatClampNeg (((a 7) (x5).toNatClampNeg) ||| c4))) 8) (x5).toNatClampNeg) ||| c3)))) rfl rfl rfl (wX_ast8 _ _ _) ?_
          refine J_iinc (v := (x5 + (1 : Int32))) d_XK_tellYes_81 rfl (by first | rfl | decide) (by decide) ?_
          refine J_goto (tgt := 32) d_XK_tellYes_84 (by decide) ?_
          exact ih _ _ _ _ _ h
def m_XK_tellYes (s : jS) (a : jB) (p0 : Int32) (p1 : Int32) : Option (jS × jB) := jg (jin p0 21) (jb (m_X_has ((a 7) (p0).toNatClampNeg) p1) (fun v2 => (if v2 = (0 : Int32) then jg (jin p0 21) (jg (jin p1 21) (L_XK_tellYes_32 (((a 8) (p0).toNatClampNeg)) (((a 7) (p1).toNatClampNeg)) (fun s9 a10 => some (s9, a10)) jF (s) (a) ((0 : Int32)))) else some (s, a))))
set_option maxRecDepth 100000 in
set_option maxHeartbeats 4000000 in
theorem c_XK_tellYes (l : Launch) (s : jS) (a : jB) (p0 : Int32) (p1 : Int32) (r : jS × jB) (h : m_XK_tellYes s a p0 p1 = some r) : JMet l vwCl NsG (.code y_XK_tellYes prog_3_method_11_code 6 none :: TsG) y_XK_tellYes rm_XK_tellYes [.ref 6, .int p0, .int p1] (wX s a) (fun v w => v = none ∧ w = wX r.1 r.2) := by
  refine J_enter (by decide +kernel) rfl (Nat.le_of_ble_eq_true rfl) ?_
  unfold m_XK_tellYes at h
  refine J_eq (ls' := [some (.ref 6), some (.int p0), some (.int p1), none, none, none]) rfl rfl rfl rfl ?_
  refine J_aload_n d_XK_tellYes_0 rfl ?_
  refine J_get (j := 0) (v := .ref 7) d_XK_tellYes_1 (wX_at6 _ _) rfl in_3 (by decide) ts_2 rfl ?_
  refine J_iload_n d_XK_tellYes_4 rfl ?_
  obtain ⟨g, h⟩ := jg_some h
  refine J_iald (f := (a 7)) d_XK_tellYes_5 (wX_at7 _ _) (jin_in g) ?_
  refine J_iload_n d_XK_tellYes_6 rfl ?_
  obtain ⟨v2, e1, h⟩ := jb_some h
  refine J_cSi2N d_XK_tellYes_7 (c_X_has l _ _ _ _ e1) ts_8 ts_good rfl rfl ts_4 ns_1 dy_X_has (by decide) (Nat.le_of_ble_eq_true rfl) ts_9 ?_
  refine J_if_eq (tgt := 14) d_XK_tellYes_10 (by decide) (fun c => ?_) (fun c => ?_)
  · have h := j_ifp c h
    refine J_aload_n d_XK_tellYes_14 rfl ?_
    refine J_get (j := 1) (v := .ref 8) d_XK_tellYes_15 (wX_at6 _ _) rfl in_3 (by decide) ts_6 rfl ?_
    refine J_iload_n d_XK_tellYes_18 rfl ?_
    obtain ⟨g, h⟩ := jg_some h
    refine J_iald (f := (a 8)) d_XK_tellYes_19 (wX_at8 _ _) (jin_in g) ?_
    refine J_istore_n d_XK_tellYes_20 (by decide) ?_
    refine J_aload_n d_XK_tellYes_21 rfl ?_
    refine J_get (j := 0) (v := .ref 7) d_XK_tellYes_22 (wX_at6 _ _) rfl in_3 (by decide) ts_2 rfl ?_
    refine J_iload_n d_XK_tellYes_25 rfl ?_
    obtain ⟨g, h⟩ := jg_some h
    refine J_iald (f := (a 7)) d_XK_tellYes_26 (wX_at7 _ _) (jin_in g) ?_
    refine J_istore d_XK_tellYes_27 (by decide) ?_
    refine J_iconst (v := (0 : Int32)) d_XK_tellYes_29 (by decide) ?_
    refine J_istore d_XK_tellYes_30 (by decide) ?_
    refine JL_XK_tellYes_32 l _ _ _ r (fun s9 a10 o11 o12 o13 h => ?_) jF _ _ _ _ _ h
    exact J_vret d_XK_tellYes_87 rfl (by cases h; exact ⟨rfl, rfl⟩)
  · have h := j_ifn c h
    exact J_vret d_XK_tellYes_13 rfl (by cases h; exact ⟨rfl, rfl⟩)
abbrev rm_XK_union_9 : Room := { frames := 2, cells := 0, slots := 0, locals := 41 }
abbrev K_XK_union_9 (l : Launch) := JW l vwCl NsG TsG "ClassifySort$Knowledge" prog_3_method_18_code 4 (some .int) rm_XK_union_9
def L_XK_union_9_4 (s : jS) (a : jB) (c1 : Int32) (k30 : Int32 → Option (Int32)) : Nat → Int32 → Int32 → Option (Int32)
  | 0, _, _ => none
  | f + 1, x2, x3 => (if (21 : Int32) ≤ x3 then k30 (x2) else jb (m_X_has c1 x3) (fun v2 => (if v2 = (0 : Int32) then L_XK_union_9_4 s a c1 k30 f (x2) ((x3 + (1 : Int32))) else jg (jin x3 21) (L_XK_union_9_4 s a c1 k30 f ((x2 ||| ((a 9) (x3).toNatClampNeg))) ((x3 + (1 : Int32)))))))
set_option maxRecDepth 100000 in
set_option maxHeartbeats 4000000 in
theorem JL_XK_union_9_4 (l : Launch) (s : jS) (a : jB) (c1 : Int32) (k30 : Int32 → Option (Int32)) (r : Int32) (hk30 : ∀ (x2 : Int32) (o3 : Option Value), k30 x2 = some r → K_XK_union_9 l 30 [some (.ref 9), some (.int c1), some (.int x2), o3] [] (wX s a) (fun v w => v = some (.int r) ∧ w = wX s a)) : ∀ (f : Nat), ∀ (x2 : Int32) (x3 : Int32), L_XK_union_9_4 s a c1 k30 f x2 x3 = some r → K_XK_union_9 l 4 [some (.ref 9), some (.int c1), some (.int x2), some (.int x3)] [] (wX s a) (fun v w => v = some (.int r) ∧ w = wX s a) := by
  intro f
  induction f with
  | zero =>
    intro x2 x3 h
    cases h
  | succ f ih =>
    intro x2 x3 h
    rw [L_XK_union_9_4] at h
    refine J_iload_n d_XK_union_4 rfl ?_
    refine J_bipush (v := (21 : Int32)) d_XK_union_5 (by decide) ?_
    refine J_icmp_ge (tgt := 30) d_XK_union_7 (by decide) (fun c => ?_) (fun c => ?_)
    · have h := j_ifp c h
      exact hk30 _ _ h
    · have h := j_ifn c h
      refine J_iload_n d_XK_union_10 rfl ?_
      refine J_iload_n d_XK_union_11 rfl ?_
      obtain ⟨v2, e1, h⟩ := jb_some h
      refine J_cSi2N d_XK_union_12 (c_X_has l _ _ _ _ e1) ts_8 ts_good rfl rfl ts_4 ns_1 dy_X_has (by decide) (Nat.le_of_ble_eq_true rfl) ts_9 ?_
      refine J_if_eq (tgt := 24) d_XK_union_15 (by decide) (fun c => ?_) (fun c => ?_)
      · have h := j_ifp c h
        refine J_iinc (v := (x3 + (1 : Int32))) d_XK_union_24 rfl (by first | rfl | decide) (by decide) ?_
        refine J_goto (tgt := 4) d_XK_union_27 (by decide) ?_
        exact ih _ _ h
      · have h := j_ifn c h
        refine J_iload_n d_XK_union_18 rfl ?_
        refine J_aload_n d_XK_union_19 rfl ?_
        refine J_iload_n d_XK_union_20 rfl ?_
        obtain ⟨g, h⟩ := jg_some h
        refine J_iald (f := (a 9)) d_XK_union_21 (wX_at9 _ _) (jin_in g) ?_
        refine J_ior d_XK_union_22 ?_
        refine J_istore_n d_XK_union_23 (by decide) ?_
        refine J_iinc (v := (x3 + (1 : Int32))) d_XK_union_24 rfl (by first | rfl | decide) (by decide) ?_
        refine J_goto (tgt := 4) d_XK_union_27 (by decide) ?_
        exact ih _ _ h
def m_XK_union_9 (s : jS) (a : jB) (p1 : Int32) : Option (Int32) := L_XK_union_9_4 (s) (a) (p1) (fun x3 => some (x3)) jF ((0 : Int32)) ((0 : Int32))
set_option maxRecDepth 100000 in
set_option maxHeartbeats 4000000 in
theorem c_XK_union_9 (l : Launch) (s : jS) (a : jB) (p1 : Int32) (r : Int32) (h : m_XK_union_9 s a p1 = some r) : JMet l vwCl NsG (.code y_XK_union prog_3_method_18_code 4 (some .int) :: TsG) y_XK_union rm_XK_union_9 [.ref 9, .int p1] (wX s a) (fun v w => v = some (.int r) ∧ w = wX s a) := by
  refine J_enter (by decide +kernel) rfl (Nat.le_of_ble_eq_true rfl) ?_
  unfold m_XK_union_9 at h
  refine J_eq (ls' := [some (.ref 9), some (.int p1), none, none]) rfl rfl rfl rfl ?_
  refine J_iconst (v := (0 : Int32)) d_XK_union_0 (by decide) ?_
  refine J_istore_n d_XK_union_1 (by decide) ?_
  refine J_iconst (v := (0 : Int32)) d_XK_union_2 (by decide) ?_
  refine J_istore_n d_XK_union_3 (by decide) ?_
  refine JL_XK_union_9_4 l _ _ _ _ r (fun x3 o4 h => ?_) jF _ _ h
  refine J_iload_n d_XK_union_30 rfl ?_
  exact J_iret d_XK_union_31 rfl rfl (by cases h; exact ⟨rfl, rfl⟩)
abbrev rm_XK_union_8 : Room := { frames := 2, cells := 0, slots := 0, locals := 41 }
abbrev K_XK_union_8 (l : Launch) := JW l vwCl NsG TsG "ClassifySort$Knowledge" prog_3_method_18_code 4 (some .int) rm_XK_union_8
def L_XK_union_8_4 (s : jS) (a : jB) (c1 : Int32) (k30 : Int32 → Option (Int32)) : Nat → Int32 → Int32 → Option (Int32)
  | 0, _, _ => none
  | f + 1, x2, x3 => (if (21 : Int32) ≤ x3 then k30 (x2) else jb (m_X_has c1 x3) (fun v2 => (if v2 = (0 : Int32) then L_XK_union_8_4 s a c1 k30 f (x2) ((x3 + (1 : Int32))) else jg (jin x3 21) (L_XK_union_8_4 s a c1 k30 f ((x2 ||| ((a 8) (x3).toNatClampNeg))) ((x3 + (1 : Int32)))))))
set_option maxRecDepth 100000 in
set_option maxHeartbeats 4000000 in
theorem JL_XK_union_8_4 (l : Launch) (s : jS) (a : jB) (c1 : Int32) (k30 : Int32 → Option (Int32)) (r : Int32) (hk30 : ∀ (x2 : Int32) (o3 : Option Value), k30 x2 = some r → K_XK_union_8 l 30 [some (.ref 8), some (.int c1), some (.int x2), o3] [] (wX s a) (fun v w => v = some (.int r) ∧ w = wX s a)) : ∀ (f : Nat), ∀ (x2 : Int32) (x3 : Int32), L_XK_union_8_4 s a c1 k30 f x2 x3 = some r → K_XK_union_8 l 4 [some (.ref 8), some (.int c1), some (.int x2), some (.int x3)] [] (wX s a) (fun v w => v = some (.int r) ∧ w = wX s a) := by
  intro f
  induction f with
  | zero =>
    intro x2 x3 h
    cases h
  | succ f ih =>
    intro x2 x3 h
    rw [L_XK_union_8_4] at h
    refine J_iload_n d_XK_union_4 rfl ?_
    refine J_bipush (v := (21 : Int32)) d_XK_union_5 (by decide) ?_
    refine J_icmp_ge (tgt := 30) d_XK_union_7 (by decide) (fun c => ?_) (fun c => ?_)
    · have h := j_ifp c h
      exact hk30 _ _ h
    · have h := j_ifn c h
      refine J_iload_n d_XK_union_10 rfl ?_
      refine J_iload_n d_XK_union_11 rfl ?_
      obtain ⟨v2, e1, h⟩ := jb_some h
      refine J_cSi2N d_XK_union_12 (c_X_has l _ _ _ _ e1) ts_8 ts_good rfl rfl ts_4 ns_1 dy_X_has (by decide) (Nat.le_of_ble_eq_true rfl) ts_9 ?_
      refine J_if_eq (tgt := 24) d_XK_union_15 (by decide) (fun c => ?_) (fun c => ?_)
      · have h := j_ifp c h
        refine J_iinc (v := (x3 + (1 : Int32))) d_XK_union_24 rfl (by first | rfl | decide) (by decide) ?_
        refine J_goto (tgt := 4) d_XK_union_27 (by decide) ?_
        exact ih _ _ h
      · have h := j_ifn c h
        refine J_iload_n d_XK_union_18 rfl ?_
        refine J_aload_n d_XK_union_19 rfl ?_
        refine J_iload_n d_XK_union_20 rfl ?_
        obtain ⟨g, h⟩ := jg_some h
        refine J_iald (f := (a 8)) d_XK_union_21 (wX_at8 _ _) (jin_in g) ?_
        refine J_ior d_XK_union_22 ?_
        refine J_istore_n d_XK_union_23 (by decide) ?_
        refine J_iinc (v := (x3 + (1 : Int32))) d_XK_union_24 rfl (by first | rfl | decide) (by decide) ?_
        refine J_goto (tgt := 4) d_XK_union_27 (by decide) ?_
        exact ih _ _ h
def m_XK_union_8 (s : jS) (a : jB) (p1 : Int32) : Option (Int32) := L_XK_union_8_4 (s) (a) (p1) (fun x3 => some (x3)) jF ((0 : Int32)) ((0 : Int32))
set_option maxRecDepth 100000 in
set_option maxHeartbeats 4000000 in
theorem c_XK_union_8 (l : Launch) (s : jS) (a : jB) (p1 : Int32) (r : Int32) (h : m_XK_union_8 s a p1 = some r) : JMet l vwCl NsG (.code y_XK_union prog_3_method_18_code 4 (some .int) :: TsG) y_XK_union rm_XK_union_8 [.ref 8, .int p1] (wX s a) (fun v w => v = some (.int r) ∧ w = wX s a) := by
  refine J_enter (by decide +kernel) rfl (Nat.le_of_ble_eq_true rfl) ?_
  unfold m_XK_union_8 at h
  refine J_eq (ls' := [some (.ref 8), some (.int p1), none, none]) rfl rfl rfl rfl ?_
  refine J_iconst (v := (0 : Int32)) d_XK_union_0 (by decide) ?_
  refine J_istore_n d_XK_union_1 (by decide) ?_
  refine J_iconst (v := (0 : Int32)) d_XK_union_2 (by decide) ?_
  refine J_istore_n d_XK_union_3 (by decide) ?_
  refine JL_XK_union_8_4 l _ _ _ _ r (fun x3 o4 h => ?_) jF _ _ h
  refine J_iload_n d_XK_union_30 rfl ?_
  exact J_iret d_XK_union_31 rfl rfl (by cases h; exact ⟨rfl, rfl⟩)
abbrev rm_XK_close : Room := { frames := 3, cells := 0, slots := 0, locals := 64 }
abbrev K_XK_close (l : Launch) := JW l vwCl NsG TsG "ClassifySort$Knowledge" prog_3_method_12_code 3 none rm_XK_close
def L_XK_close_2 (k66 : jS → jB → Option (jS × jB)) : Nat → jS → jB → Int32 → Option (jS × jB)
  | 0, _, _, _ => none
  | f + 1, s, a, x1 => (if (21 : Int32) ≤ x1 then k66 (s) (a) else jg (jin x1 21) (jb (m_XK_union_9 s a ((a 8) (x1).toNatClampNeg)) (fun v2 => jb (m_XK_union_8 s a v2) (fun v4 => jg (jin x1 21) (jg (jin x1 21) (jg (jin x1 21) (jg (jin x1 21) (jg (jin x1 21) (L_XK_close_2 k66 f (s) ((va_up (va_up a 9 (upd (a 9) (x1).toNatClampNeg v4)) 10 (upd ((va_up a 9 (upd (a 9) (x1).toNatClampNeg v4)) 10) (x1).toNatClampNeg ((((va_up a 9 (upd (a 9) (x1).toNatClampNeg v4)) 10) (x1).toNatClampNeg) &&& (((((va_up a 9 (upd (a 9) (x1).toNatClampNeg v4)) 7) (x1).toNatClampNeg) ||| ((upd (a 9) (x1).toNatClampNeg v4) (x1).toNatClampNeg)) ^^^ (-1 : Int32)))))) ((x1 + (1 : Int32))))))))))))
set_option maxRecDepth 100000 in
set_option maxHeartbeats 4000000 in
theorem JL_XK_close_2 (l : Launch) (k66 : jS → jB → Option (jS × jB)) (r : jS × jB) (hk66 : ∀ (s : jS) (a : jB) (o1 : Option Value) (o2 : Option Value), k66 s a = some r → K_XK_close l 66 [some (.ref 6), o1, o2] [] (wX s a) (fun v w => v = none ∧ w = wX r.1 r.2)) : ∀ (f : Nat), ∀ (s : jS) (a : jB) (x1 : Int32) (o2 : Option Value), L_XK_close_2 k66 f s a x1 = some r → K_XK_close l 2 [some (.ref 6), some (.int x1), o2] [] (wX s a) (fun v w => v = none ∧ w = wX r.1 r.2) := by
  intro f
  induction f with
  | zero =>
    intro s a x1 o2 h
    cases h
  | succ f ih =>
    intro s a x1 o2 h
    rw [L_XK_close_2] at h
    refine J_iload_n d_XK_close_2 rfl ?_
    refine J_bipush (v := (21 : Int32)) d_XK_close_3 (by decide) ?_
    refine J_icmp_ge (tgt := 66) d_XK_close_5 (by decide) (fun c => ?_) (fun c => ?_)
    · have h := j_ifp c h
      exact hk66 _ _ _ _ h
    · have h := j_ifn c h
      refine J_aload_n d_XK_close_8 rfl ?_
      refine J_get (j := 2) (v := .ref 9) d_XK_close_9 (wX_at6 _ _) rfl in_3 (by decide) ts_15 rfl ?_
      refine J_aload_n d_XK_close_12 rfl ?_
      refine J_get (j := 1) (v := .ref 8) d_XK_close_13 (wX_at6 _ _) rfl in_3 (by decide) ts_6 rfl ?_
      refine J_iload_n d_XK_close_16 rfl ?_
      obtain ⟨g, h⟩ := jg_some h
      refine J_iald (f := (a 8)) d_XK_close_17 (wX_at8 _ _) (jin_in g) ?_
      obtain ⟨v2, e1, h⟩ := jb_some h
      refine J_cSi2 d_XK_close_18 (c_XK_union_9 l _ _ _ _ e1) ts_16 ts_good rfl rfl ts_11 ts_17 dy_XK_union (by decide) (Nat.le_of_ble_eq_true rfl) ts_18 ?_
      refine J_istore_n d_XK_close_21 (by decide) ?_
      refine J_aload_n d_XK_close_22 rfl ?_
      refine J_get (j := 2) (v := .ref 9) d_XK_close_23 (wX_at6 _ _) rfl in_3 (by decide) ts_15 rfl ?_
      refine J_iload_n d_XK_close_26 rfl ?_
      refine J_aload_n d_XK_close_27 rfl ?_
      refine J_get (j := 1) (v := .ref 8) d_XK_close_28 (wX_at6 _ _) rfl in_3 (by decide) ts_6 rfl ?_
      refine J_iload_n d_XK_close_31 rfl ?_
      obtain ⟨v4, e3, h⟩ := jb_some h
      refine J_cSi2 d_XK_close_32 (c_XK_union_8 l _ _ _ _ e3) ts_16 ts_good rfl rfl ts_11 ts_17 dy_XK_union (by decide) (Nat.le_of_ble_eq_true rfl) ts_18 ?_
      obtain ⟨g, h⟩ := jg_some h
      refine J_iast (f := (a 9)) d_XK_close_35 (wX_at9 _ _) (jin_in g) ?_
      refine J_eq (ws' := wX s (va_up a 9 (upd (a 9) (x1).toNatClampNeg v4))) rfl rfl rfl (wX_ast9 _ _ _) ?_
      refine J_aload_n d_XK_close_36 rfl ?_
      refine J_get (j := 3) (v := .ref 10) d_XK_close_37 (wX_at6 _ _) rfl in_3 (by decide) ts_19 rfl ?_
      refine J_iload_n d_XK_close_40 rfl ?_
      refine J_dup2 d_XK_close_41 rfl rfl ?_
      obtain ⟨g, h⟩ := jg_some h
      refine J_iald (f := ((va_up a 9 (upd (a 9) (x1).toNatClampNeg v4)) 10)) d_XK_close_42 (wX_at10 _ _) (jin_in g) ?_
      refine J_aload_n d_XK_close_43 rfl ?_
      refine J_get (j := 0) (v := .ref 7) d_XK_close_44 (wX_at6 _ _) rfl in_3 (by decide) ts_2 rfl ?_
      refine J_iload_n d_XK_close_47 rfl ?_
      obtain ⟨g, h⟩ := jg_some h
      refine J_iald (f := ((va_up a 9 (upd (a 9) (x1).toNatClampNeg v4)) 7)) d_XK_close_48 (wX_at7 _ _) (jin_in g) ?_
      refine J_aload_n d_XK_close_49 rfl ?_
      refine J_get (j := 2) (v := .ref 9) d_XK_close_50 (wX_at6 _ _) rfl in_3 (by decide) ts_15 rfl ?_
      refine J_iload_n d_XK_close_53 rfl ?_
      obtain ⟨g, h⟩ := jg_some h
      refine J_iald (f := (upd (a 9) (x1).toNatClampNeg v4)) d_XK_close_54 (wX_at9 _ _) (jin_in g) ?_
      refine J_ior d_XK_close_55 ?_
      refine J_iconst (v := (-1 : Int32)) d_XK_close_56 (by decide) ?_
      refine J_ixor d_XK_close_57 ?_
      refine J_iand d_XK_close_58 ?_
      obtain ⟨g, h⟩ := jg_some h
      refine J_iast (f := ((va_up a 9 (upd (a 9) (x1).toNatClampNeg v4)) 10)) d_XK_close_59 (wX_at10 _ _) (jin_in g) ?_
      refine J_eq (ws' := wX s (va_up (va_up a 9 (upd (a 9) (x1).toNatClampNeg v4)) 10 (upd ((va_up a 9 (upd (a 9) (x1).toNatClampNeg v4)) 10) (x1).toNatClampNeg ((((va_up a 9 (upd (a 9) (x1).toNatClampNeg v4)) 10) (x1).toNatClampNeg) &&& (((((va_up a 9 (upd (a 9) (x1).toNatClampNeg v4)) 7) (x1).toNatClampNeg) ||| ((upd (a 9) (x1).toNatClampNeg v4) (x1).toNatClampNeg)) ^^^ (-1 : Int32)))))) rfl rfl rfl (wX_ast10 _ _ _) ?_
      refine J_iinc (v := (x1 + (1 : Int32))) d_XK_close_60 rfl (by first | rfl | decide) (by decide) ?_
      refine J_goto (tgt := 2) d_XK_close_63 (by decide) ?_
      exact ih _ _ _ _ h
def m_XK_close (s : jS) (a : jB) : Option (jS × jB) := L_XK_close_2 (fun s5 a6 => some (s5, a6)) jF (s) (a) ((0 : Int32))
set_option maxRecDepth 100000 in
set_option maxHeartbeats 4000000 in
theorem c_XK_close (l : Launch) (s : jS) (a : jB) (r : jS × jB) (h : m_XK_close s a = some r) : JMet l vwCl NsG (.code y_XK_close prog_3_method_12_code 3 none :: TsG) y_XK_close rm_XK_close [.ref 6] (wX s a) (fun v w => v = none ∧ w = wX r.1 r.2) := by
  refine J_enter (by decide +kernel) rfl (Nat.le_of_ble_eq_true rfl) ?_
  unfold m_XK_close at h
  refine J_eq (ls' := [some (.ref 6), none, none]) rfl rfl rfl rfl ?_
  refine J_iconst (v := (0 : Int32)) d_XK_close_0 (by decide) ?_
  refine J_istore_n d_XK_close_1 (by decide) ?_
  refine JL_XK_close_2 l _ r (fun s5 a6 o7 o8 h => ?_) jF _ _ _ _ h
  exact J_vret d_XK_close_66 rfl (by cases h; exact ⟨rfl, rfl⟩)
abbrev rm_XK_addClass : Room := { frames := 4, cells := 0, slots := 0, locals := 86 }
abbrev K_XK_addClass (l : Launch) := JW l vwCl NsG TsG "ClassifySort$Knowledge" prog_3_method_2_code 2 none rm_XK_addClass
def m_XK_addClass (s : jS) (a : jB) (p0 : Int32) : Option (jS × jB) := jb (m_X_bit p0) (fun v2 => jg (jin p0 21) (jb (m_X_bit p0) (fun v4 => jg (jin p0 21) (jb2 (m_XK_tellYes s (va_up (va_up a 7 (upd (a 7) (p0).toNatClampNeg v2)) 8 (upd ((va_up a 7 (upd (a 7) (p0).toNatClampNeg v2)) 8) (p0).toNatClampNeg v4)) (20 : Int32) p0) (fun s6 a7 => jb2 (m_XK_close s6 a7) (fun s9 a10 => some (s9, a10)))))))
set_option maxRecDepth 100000 in
set_option maxHeartbeats 4000000 in
theorem c_XK_addClass (l : Launch) (s : jS) (a : jB) (p0 : Int32) (r : jS × jB) (h : m_XK_addClass s a p0 = some r) : JMet l vwCl NsG (.code y_XK_addClass prog_3_method_2_code 2 none :: TsG) y_XK_addClass rm_XK_addClass [.ref 6, .int p0] (wX s a) (fun v w => v = none ∧ w = wX r.1 r.2) := by
  refine J_enter (by decide +kernel) rfl (Nat.le_of_ble_eq_true rfl) ?_
  unfold m_XK_addClass at h
  refine J_eq (ls' := [some (.ref 6), some (.int p0)]) rfl rfl rfl rfl ?_
  refine J_aload_n d_XK_addClass_0 rfl ?_
  refine J_get (j := 0) (v := .ref 7) d_XK_addClass_1 (wX_at6 _ _) rfl in_3 (by decide) ts_2 rfl ?_
  refine J_iload_n d_XK_addClass_4 rfl ?_
  refine J_iload_n d_XK_addClass_5 rfl ?_
  obtain ⟨v2, e1, h⟩ := jb_some h
  refine J_cSi1N d_XK_addClass_6 (c_X_bit l _ _ _ e1) ts_3 ts_good rfl rfl ts_4 ns_0 dy_X_bit (by decide) (Nat.le_of_ble_eq_true rfl) ts_5 ?_
  obtain ⟨g, h⟩ := jg_some h
  refine J_iast (f := (a 7)) d_XK_addClass_9 (wX_at7 _ _) (jin_in g) ?_
  refine J_eq (ws' := wX s (va_up a 7 (upd (a 7) (p0).toNatClampNeg v2))) rfl rfl rfl (wX_ast7 _ _ _) ?_
  refine J_aload_n d_XK_addClass_10 rfl ?_
  refine J_get (j := 1) (v := .ref 8) d_XK_addClass_11 (wX_at6 _ _) rfl in_3 (by decide) ts_6 rfl ?_
  refine J_iload_n d_XK_addClass_14 rfl ?_
  refine J_iload_n d_XK_addClass_15 rfl ?_
  obtain ⟨v4, e3, h⟩ := jb_some h
  refine J_cSi1N d_XK_addClass_16 (c_X_bit l _ _ _ e3) ts_3 ts_good rfl rfl ts_4 ns_0 dy_X_bit (by decide) (Nat.le_of_ble_eq_true rfl) ts_5 ?_
  obtain ⟨g, h⟩ := jg_some h
  refine J_iast (f := ((va_up a 7 (upd (a 7) (p0).toNatClampNeg v2)) 8)) d_XK_addClass_19 (wX_at8 _ _) (jin_in g) ?_
  refine J_eq (ws' := wX s (va_up (va_up a 7 (upd (a 7) (p0).toNatClampNeg v2)) 8 (upd ((va_up a 7 (upd (a 7) (p0).toNatClampNeg v2)) 8) (p0).toNatClampNeg v4))) rfl rfl rfl (wX_ast8 _ _ _) ?_
  refine J_aload_n d_XK_addClass_20 rfl ?_
  refine J_bipush (v := (20 : Int32)) d_XK_addClass_21 (by decide) ?_
  refine J_iload_n d_XK_addClass_23 rfl ?_
  obtain ⟨s6, a7, e5, h⟩ := jb2_some h
  refine J_cVv2 d_XK_addClass_24 (c_XK_tellYes l _ _ _ _ _ e5) (wX_at6 _ _) rfl ts_10 ts_good rfl rfl ts_11 ts_12 dy_XK_tellYes (by decide) (Nat.le_of_ble_eq_true rfl) ts_13 ts_14 ?_
  refine J_aload_n d_XK_addClass_27 rfl ?_
  obtain ⟨s9, a10, e8, h⟩ := jb2_some h
  refine J_cVv0 d_XK_addClass_28 (c_XK_close l _ _ _ e8) (wX_at6 _ _) rfl ts_20 ts_good rfl rfl ts_11 ts_21 dy_XK_close (by decide) (Nat.le_of_ble_eq_true rfl) ts_22 ts_23 ?_
  exact J_vret d_XK_addClass_31 rfl (by cases h; exact ⟨rfl, rfl⟩)
abbrev rm_X_class0 : Room := { frames := 5, cells := 0, slots := 0, locals := 107 }
abbrev K_X_class0 (l : Launch) := JW l vwCl NsG TsG "ClassifySort" prog_1_method_2_code 1 (some .int) rm_X_class0
def m_X_class0 (s : jS) (a : jB) : Option (Int32 × jS × jB) := (if (s 0) < (20 : Int32) then jb2 (m_XK_addClass s a (s 0)) (fun s2 a3 => some (((((upd s2 3 (0 : Int32)) 0) + (1 : Int32)) - (1 : Int32)), (upd (upd s2 3 (0 : Int32)) 0 (((upd s2 3 (0 : Int32)) 0) + (1 : Int32))), a3)) else some ((-4 : Int32), s, a))
set_option maxRecDepth 100000 in
set_option maxHeartbeats 4000000 in
theorem c_X_class0 (l : Launch) (s : jS) (a : jB) (r : Int32 × jS × jB) (h : m_X_class0 s a = some r) : JMet l vwCl NsG (.code y_X_class0 prog_1_method_2_code 1 (some .int) :: TsG) y_X_class0 rm_X_class0 [.ref 0] (wX s a) (fun v w => v = some (.int r.1) ∧ w = wX r.2.1 r.2.2) := by
  refine J_enter (by decide +kernel) rfl (Nat.le_of_ble_eq_true rfl) ?_
  unfold m_X_class0 at h
  refine J_eq (ls' := [some (.ref 0)]) rfl rfl rfl rfl ?_
  refine J_aload_n d_X_class0_0 rfl ?_
  refine J_get (j := 5) (v := .int (s 0)) d_X_class0_1 (wX_at0 _ _) rfl in_0 (by decide) ts_0 rfl ?_
  refine J_bipush (v := (20 : Int32)) d_X_class0_4 (by decide) ?_
  refine J_icmp_lt (tgt := 12) d_X_class0_6 (by decide) (fun c => ?_) (fun c => ?_)
  · have h := j_ifp c h
    refine J_aload_n d_X_class0_12 rfl ?_
    refine J_get (j := 2) (v := .ref 6) d_X_class0_13 (wX_at0 _ _) rfl in_0 (by decide) ts_1 rfl ?_
    refine J_aload_n d_X_class0_16 rfl ?_
    refine J_get (j := 5) (v := .int (s 0)) d_X_class0_17 (wX_at0 _ _) rfl in_0 (by decide) ts_0 rfl ?_
    obtain ⟨s2, a3, e1, h⟩ := jb2_some h
    refine J_cVv1 d_X_class0_20 (c_XK_addClass l _ _ _ _ e1) (wX_at6 _ _) rfl ts_24 ts_good rfl rfl ts_11 ts_25 dy_XK_addClass (by decide) (Nat.le_of_ble_eq_true rfl) ts_26 ts_27 ?_
    refine J_aload_n d_X_class0_23 rfl ?_
    refine J_iconst (v := (0 : Int32)) d_X_class0_24 (by decide) ?_
    refine J_put (j := 8) d_X_class0_25 (wX_at0 _ _) rfl in_0 ty_X tyok_X nok_X (by decide) ts_28 rfl (tyok_X 8 (by decide)) (by decide) (by decide) (Nat.le_of_ble_eq_true rfl) ?_
    refine J_eq rfl rfl rfl (wX_put3 _ _ _) ?_
    refine J_aload_n d_X_class0_28 rfl ?_
    refine J_dup d_X_class0_29 rfl ?_
    refine J_get (j := 5) (v := .int ((upd s2 3 (0 : Int32)) 0)) d_X_class0_30 (wX_at0 _ _) rfl in_0 (by decide) ts_0 rfl ?_
    refine J_iconst (v := (1 : Int32)) d_X_class0_33 (by decide) ?_
    refine J_iadd d_X_class0_34 ?_
    refine J_put (j := 5) d_X_class0_35 (wX_at0 _ _) rfl in_0 ty_X tyok_X nok_X (by decide) ts_0 rfl (tyok_X 5 (by decide)) rfl rfl (Nat.le_of_ble_eq_true rfl) ?_
    refine J_eq rfl rfl rfl (wX_put0 _ _ _) ?_
    refine J_aload_n d_X_class0_38 rfl ?_
    refine J_get (j := 5) (v := .int (((upd s2 3 (0 : Int32)) 0) + (1 : Int32))) d_X_class0_39 (wX_at0 _ _) rfl in_0 (by decide) ts_0 rfl ?_
    refine J_iconst (v := (1 : Int32)) d_X_class0_42 (by decide) ?_
    refine J_isub d_X_class0_43 ?_
    exact J_iret d_X_class0_44 rfl rfl (by cases h; exact ⟨rfl, rfl⟩)
  · have h := j_ifn c h
    refine J_bipush (v := (-4 : Int32)) d_X_class0_9 (by decide) ?_
    exact J_iret d_X_class0_11 rfl rfl (by cases h; exact ⟨rfl, rfl⟩)
abbrev rm_X_thing : Room := { frames := 0, cells := 0, slots := 0, locals := 0 }
abbrev K_X_thing (l : Launch) := JW l vwCl NsG TsG "ClassifySort" prog_1_method_3_code 1 (some .int) rm_X_thing
def m_X_thing (s : jS) (a : jB) : Option (Int32 × jS × jB) := (if (s 1) < (8 : Int32) then some ((((s 1) + (1 : Int32)) - (1 : Int32)), (upd s 1 ((s 1) + (1 : Int32))), a) else some ((-4 : Int32), s, a))
set_option maxRecDepth 100000 in
set_option maxHeartbeats 4000000 in
theorem c_X_thing (l : Launch) (s : jS) (a : jB) (r : Int32 × jS × jB) (h : m_X_thing s a = some r) : JMet l vwCl NsG (.code y_X_thing prog_1_method_3_code 1 (some .int) :: TsG) y_X_thing rm_X_thing [.ref 0] (wX s a) (fun v w => v = some (.int r.1) ∧ w = wX r.2.1 r.2.2) := by
  refine J_enter (by decide +kernel) rfl (Nat.le_of_ble_eq_true rfl) ?_
  unfold m_X_thing at h
  refine J_eq (ls' := [some (.ref 0)]) rfl rfl rfl rfl ?_
  refine J_aload_n d_X_thing_0 rfl ?_
  refine J_get (j := 6) (v := .int (s 1)) d_X_thing_1 (wX_at0 _ _) rfl in_0 (by decide) ts_29 rfl ?_
  refine J_bipush (v := (8 : Int32)) d_X_thing_4 (by decide) ?_
  refine J_icmp_lt (tgt := 12) d_X_thing_6 (by decide) (fun c => ?_) (fun c => ?_)
  · have h := j_ifp c h
    refine J_aload_n d_X_thing_12 rfl ?_
    refine J_dup d_X_thing_13 rfl ?_
    refine J_get (j := 6) (v := .int (s 1)) d_X_thing_14 (wX_at0 _ _) rfl in_0 (by decide) ts_29 rfl ?_
    refine J_iconst (v := (1 : Int32)) d_X_thing_17 (by decide) ?_
    refine J_iadd d_X_thing_18 ?_
    refine J_put (j := 6) d_X_thing_19 (wX_at0 _ _) rfl in_0 ty_X tyok_X nok_X (by decide) ts_29 rfl (tyok_X 6 (by decide)) rfl rfl (Nat.le_of_ble_eq_true rfl) ?_
    refine J_eq rfl rfl rfl (wX_put1 _ _ _) ?_
    refine J_aload_n d_X_thing_22 rfl ?_
    refine J_get (j := 6) (v := .int ((s 1) + (1 : Int32))) d_X_thing_23 (wX_at0 _ _) rfl in_0 (by decide) ts_29 rfl ?_
    refine J_iconst (v := (1 : Int32)) d_X_thing_26 (by decide) ?_
    refine J_isub d_X_thing_27 ?_
    exact J_iret d_X_thing_28 rfl rfl (by cases h; exact ⟨rfl, rfl⟩)
  · have h := j_ifn c h
    refine J_bipush (v := (-4 : Int32)) d_X_thing_9 (by decide) ?_
    exact J_iret d_X_thing_11 rfl rfl (by cases h; exact ⟨rfl, rfl⟩)
abbrev rm_X_isClass : Room := { frames := 0, cells := 0, slots := 0, locals := 0 }
abbrev K_X_isClass (l : Launch) := JW l vwCl NsG TsG "ClassifySort" prog_1_method_19_code 2 (some .boolean) rm_X_isClass
def m_X_isClass (s : jS) (a : jB) (p0 : Int32) : Option (Int32) := jb (if p0 < (0 : Int32) then some (0 : Int32) else (if (s 0) ≤ p0 then some (0 : Int32) else some (1 : Int32))) (fun b1 => jg (jz b1) (some (b1)))
set_option maxRecDepth 100000 in
set_option maxHeartbeats 4000000 in
theorem c_X_isClass (l : Launch) (s : jS) (a : jB) (p0 : Int32) (r : Int32) (h : m_X_isClass s a p0 = some r) : JMet l vwCl NsG (.code y_X_isClass prog_1_method_19_code 2 (some .boolean) :: TsG) y_X_isClass rm_X_isClass [.ref 0, .int p0] (wX s a) (fun v w => v = some (.int r) ∧ w = wX s a) := by
  refine J_enter (by decide +kernel) rfl (Nat.le_of_ble_eq_true rfl) ?_
  unfold m_X_isClass at h
  refine J_eq (ls' := [some (.ref 0), some (.int p0)]) rfl rfl rfl rfl ?_
  refine J_iload_n d_X_isClass_0 rfl ?_
  obtain ⟨b1, hb1, h⟩ := jb_some h
  have kb1 : K_X_isClass l 17 [some (.ref 0), some (.int p0)] [.int b1] (wX s a) (fun v w => v = some (.int r) ∧ w = wX s a) := by
    obtain ⟨g, h⟩ := jg_some h
    exact J_iret d_X_isClass_17 rfl (jz_nar g) (by cases h; exact ⟨rfl, rfl⟩)
  clear h
  have h := hb1
  refine J_if_lt (tgt := 16) d_X_isClass_1 (by decide) (fun c => ?_) (fun c => ?_)
  · have h := j_ifp c h
    refine J_iconst (v := (0 : Int32)) d_X_isClass_16 (by decide) ?_
    cases h
    exact kb1
  · have h := j_ifn c h
    refine J_iload_n d_X_isClass_4 rfl ?_
    refine J_aload_n d_X_isClass_5 rfl ?_
    refine J_get (j := 5) (v := .int (s 0)) d_X_isClass_6 (wX_at0 _ _) rfl in_0 (by decide) ts_0 rfl ?_
    refine J_icmp_ge (tgt := 16) d_X_isClass_9 (by decide) (fun c => ?_) (fun c => ?_)
    · have h := j_ifp c h
      refine J_iconst (v := (0 : Int32)) d_X_isClass_16 (by decide) ?_
      cases h
      exact kb1
    · have h := j_ifn c h
      refine J_iconst (v := (1 : Int32)) d_X_isClass_12 (by decide) ?_
      refine J_goto (tgt := 17) d_X_isClass_13 (by decide) ?_
      cases h
      exact kb1
abbrev rm_X_isGoal : Room := { frames := 1, cells := 0, slots := 0, locals := 21 }
abbrev K_X_isGoal (l : Launch) := JW l vwCl NsG TsG "ClassifySort" prog_1_method_21_code 2 (some .boolean) rm_X_isGoal
def m_X_isGoal (s : jS) (a : jB) (p0 : Int32) : Option (Int32) := jb (if p0 = (-1 : Int32) then some (1 : Int32) else jb (m_X_isClass s a p0) (fun v3 => (if v3 = (0 : Int32) then some (0 : Int32) else some (1 : Int32)))) (fun b1 => jg (jz b1) (some (b1)))
set_option maxRecDepth 100000 in
set_option maxHeartbeats 4000000 in
theorem c_X_isGoal (l : Launch) (s : jS) (a : jB) (p0 : Int32) (r : Int32) (h : m_X_isGoal s a p0 = some r) : JMet l vwCl NsG (.code y_X_isGoal prog_1_method_21_code 2 (some .boolean) :: TsG) y_X_isGoal rm_X_isGoal [.ref 0, .int p0] (wX s a) (fun v w => v = some (.int r) ∧ w = wX s a) := by
  refine J_enter (by decide +kernel) rfl (Nat.le_of_ble_eq_true rfl) ?_
  unfold m_X_isGoal at h
  refine J_eq (ls' := [some (.ref 0), some (.int p0)]) rfl rfl rfl rfl ?_
  refine J_iload_n d_X_isGoal_0 rfl ?_
  refine J_iconst (v := (-1 : Int32)) d_X_isGoal_1 (by decide) ?_
  obtain ⟨b1, hb1, h⟩ := jb_some h
  have kb1 : K_X_isGoal l 18 [some (.ref 0), some (.int p0)] [.int b1] (wX s a) (fun v w => v = some (.int r) ∧ w = wX s a) := by
    obtain ⟨g, h⟩ := jg_some h
    exact J_iret d_X_isGoal_18 rfl (jz_nar g) (by cases h; exact ⟨rfl, rfl⟩)
  clear h
  have h := hb1
  refine J_icmp_eq (tgt := 13) d_X_isGoal_2 (by decide) (fun c => ?_) (fun c => ?_)
  · have h := j_ifp c h
    refine J_iconst (v := (1 : Int32)) d_X_isGoal_13 (by decide) ?_
    refine J_goto (tgt := 18) d_X_isGoal_14 (by decide) ?_
    cases h
    exact kb1
  · have h := j_ifn c h
    refine J_aload_n d_X_isGoal_5 rfl ?_
    refine J_iload_n d_X_isGoal_6 rfl ?_
    obtain ⟨v3, e2, h⟩ := jb_some h
    refine J_cVi1 d_X_isGoal_7 (c_X_isClass l _ _ _ _ e2) (wX_at0 _ _) rfl ts_30 ts_good rfl rfl ts_4 ts_31 dy_X_isClass (by decide) (Nat.le_of_ble_eq_true rfl) ts_32 ts_33 ?_
    refine J_if_eq (tgt := 17) d_X_isGoal_10 (by decide) (fun c => ?_) (fun c => ?_)
    · have h := j_ifp c h
      refine J_iconst (v := (0 : Int32)) d_X_isGoal_17 (by decide) ?_
      cases h
      exact kb1
    · have h := j_ifn c h
      refine J_iconst (v := (1 : Int32)) d_X_isGoal_13 (by decide) ?_
      refine J_goto (tgt := 18) d_X_isGoal_14 (by decide) ?_
      cases h
      exact kb1
abbrev rm_XA_isFull : Room := { frames := 0, cells := 0, slots := 0, locals := 0 }
abbrev K_XA_isFull (l : Launch) := JW l vwCl NsG TsG "ClassifySort$Axioms" prog_2_method_2_code 1 (some .boolean) rm_XA_isFull
def m_XA_isFull (s : jS) (a : jB) : Option (Int32) := jb (if (s 4) < (40 : Int32) then some (0 : Int32) else some (1 : Int32)) (fun b1 => jg (jz b1) (some (b1)))
set_option maxRecDepth 100000 in
set_option maxHeartbeats 4000000 in
theorem c_XA_isFull (l : Launch) (s : jS) (a : jB) (r : Int32) (h : m_XA_isFull s a = some r) : JMet l vwCl NsG (.code y_XA_isFull prog_2_method_2_code 1 (some .boolean) :: TsG) y_XA_isFull rm_XA_isFull [.ref 1] (wX s a) (fun v w => v = some (.int r) ∧ w = wX s a) := by
  refine J_enter (by decide +kernel) rfl (Nat.le_of_ble_eq_true rfl) ?_
  unfold m_XA_isFull at h
  refine J_eq (ls' := [some (.ref 1)]) rfl rfl rfl rfl ?_
  refine J_aload_n d_XA_isFull_0 rfl ?_
  refine J_get (j := 2) (v := .int (s 4)) d_XA_isFull_1 (wX_at1 _ _) rfl in_1 (by decide) ts_39 rfl ?_
  refine J_bipush (v := (40 : Int32)) d_XA_isFull_4 (by decide) ?_
  obtain ⟨b1, hb1, h⟩ := jb_some h
  have kb1 : K_XA_isFull l 14 [some (.ref 1)] [.int b1] (wX s a) (fun v w => v = some (.int r) ∧ w = wX s a) := by
    obtain ⟨g, h⟩ := jg_some h
    exact J_iret d_XA_isFull_14 rfl (jz_nar g) (by cases h; exact ⟨rfl, rfl⟩)
  clear h
  have h := hb1
  refine J_icmp_lt (tgt := 13) d_XA_isFull_6 (by decide) (fun c => ?_) (fun c => ?_)
  · have h := j_ifp c h
    refine J_iconst (v := (0 : Int32)) d_XA_isFull_13 (by decide) ?_
    cases h
    exact kb1
  · have h := j_ifn c h
    refine J_iconst (v := (1 : Int32)) d_XA_isFull_9 (by decide) ?_
    refine J_goto (tgt := 14) d_XA_isFull_10 (by decide) ?_
    cases h
    exact kb1
abbrev rm_X_slot : Room := { frames := 0, cells := 0, slots := 0, locals := 0 }
abbrev K_X_slot (l : Launch) := JW l vwCl NsG TsG "ClassifySort" prog_1_method_23_code 1 (some .int) rm_X_slot
def m_X_slot (p0 : Int32) : Option (Int32) := jb (if p0 = (-1 : Int32) then some (20 : Int32) else some p0) (fun b1 => some (b1))
set_option maxRecDepth 100000 in
set_option maxHeartbeats 4000000 in
theorem c_X_slot (l : Launch) (ws : jW) (p0 : Int32) (r : Int32) (h : m_X_slot p0 = some r) : JMet l vwCl NsG (.code y_X_slot prog_1_method_23_code 1 (some .int) :: TsG) y_X_slot rm_X_slot [.int p0] ws (fun v w => v = some (.int r) ∧ w = ws) := by
  refine J_enter (by decide +kernel) rfl (Nat.le_of_ble_eq_true rfl) ?_
  unfold m_X_slot at h
  refine J_eq (ls' := [some (.int p0)]) rfl rfl rfl rfl ?_
  refine J_iload_n d_X_slot_0 rfl ?_
  refine J_iconst (v := (-1 : Int32)) d_X_slot_1 (by decide) ?_
  obtain ⟨b1, hb1, h⟩ := jb_some h
  have kb1 : K_X_slot l 11 [some (.int p0)] [.int b1] ws (fun v w => v = some (.int r) ∧ w = ws) := by
    exact J_iret d_X_slot_11 rfl rfl (by cases h; exact ⟨rfl, rfl⟩)
  clear h
  have h := hb1
  refine J_icmp_ne (tgt := 10) d_X_slot_2 (by decide) (fun c => ?_) (fun c => ?_)
  · have h := j_ifn c h
    refine J_iload_n d_X_slot_10 rfl ?_
    cases h
    exact kb1
  · have h := j_ifp c h
    refine J_bipush (v := (20 : Int32)) d_X_slot_5 (by decide) ?_
    refine J_goto (tgt := 11) d_X_slot_7 (by decide) ?_
    cases h
    exact kb1
abbrev rm_XA_add : Room := { frames := 1, cells := 0, slots := 0, locals := 20 }
abbrev K_XA_add (l : Launch) := JW l vwCl NsG TsG "ClassifySort$Axioms" prog_2_method_7_code 3 (some .int) rm_XA_add
def m_XA_add (s : jS) (a : jB) (p0 : Int32) (p1 : Int32) : Option (Int32 × jS × jB) := jb (m_XA_isFull s a) (fun v2 => (if v2 = (0 : Int32) then jg (jin (s 4) 40) (jg (jin (s 4) 40) (some ((((s 4) + (1 : Int32)) - (1 : Int32)), (upd (upd s 4 ((s 4) + (1 : Int32))) 5 (((upd s 4 ((s 4) + (1 : Int32))) 5) + (1 : Int32))), (va_up (va_up a 2 (upd (a 2) ((s 4)).toNatClampNeg p0)) 3 (upd ((va_up a 2 (upd (a 2) ((s 4)).toNatClampNeg p0)) 3) ((s 4)).toNatClampNeg p1))))) else some ((-4 : Int32), s, a)))
set_option maxRecDepth 100000 in
set_option maxHeartbeats 4000000 in
theorem c_XA_add (l : Launch) (s : jS) (a : jB) (p0 : Int32) (p1 : Int32) (r : Int32 × jS × jB) (h : m_XA_add s a p0 p1 = some r) : JMet l vwCl NsG (.code y_XA_add prog_2_method_7_code 3 (some .int) :: TsG) y_XA_add rm_XA_add [.ref 1, .int p0, .int p1] (wX s a) (fun v w => v = some (.int r.1) ∧ w = wX r.2.1 r.2.2) := by
  refine J_enter (by decide +kernel) rfl (Nat.le_of_ble_eq_true rfl) ?_
  unfold m_XA_add at h
  refine J_eq (ls' := [some (.ref 1), some (.int p0), some (.int p1)]) rfl rfl rfl rfl ?_
  refine J_aload_n d_XA_add_0 rfl ?_
  obtain ⟨v2, e1, h⟩ := jb_some h
  refine J_cVi0 d_XA_add_1 (c_XA_isFull l _ _ _ e1) (wX_at1 _ _) rfl ts_40 ts_good rfl rfl ts_41 ts_48 dy_XA_isFull (by decide) (Nat.le_of_ble_eq_true rfl) ts_43 ts_44 ?_
  refine J_if_eq (tgt := 10) d_XA_add_4 (by decide) (fun c => ?_) (fun c => ?_)
  · have h := j_ifp c h
    refine J_aload_n d_XA_add_10 rfl ?_
    refine J_get (j := 0) (v := .ref 2) d_XA_add_11 (wX_at1 _ _) rfl in_1 (by decide) ts_49 rfl ?_
    refine J_aload_n d_XA_add_14 rfl ?_
    refine J_get (j := 2) (v := .int (s 4)) d_XA_add_15 (wX_at1 _ _) rfl in_1 (by decide) ts_39 rfl ?_
    refine J_iload_n d_XA_add_18 rfl ?_
    obtain ⟨g, h⟩ := jg_some h
    refine J_iast (f := (a 2)) d_XA_add_19 (wX_at2 _ _) (jin_in g) ?_
    refine J_eq (ws' := wX s (va_up a 2 (upd (a 2) ((s 4)).toNatClampNeg p0))) rfl rfl rfl (wX_ast2 _ _ _) ?_
    refine J_aload_n d_XA_add_20 rfl ?_
    refine J_get (j := 1) (v := .ref 3) d_XA_add_21 (wX_at1 _ _) rfl in_1 (by decide) ts_50 rfl ?_
    refine J_aload_n d_XA_add_24 rfl ?_
    refine J_get (j := 2) (v := .int (s 4)) d_XA_add_25 (wX_at1 _ _) rfl in_1 (by decide) ts_39 rfl ?_
    refine J_iload_n d_XA_add_28 rfl ?_
    obtain ⟨g, h⟩ := jg_some h
    refine J_iast (f := ((va_up a 2 (upd (a 2) ((s 4)).toNatClampNeg p0)) 3)) d_XA_add_29 (wX_at3 _ _) (jin_in g) ?_
    refine J_eq (ws' := wX s (va_up (va_up a 2 (upd (a 2) ((s 4)).toNatClampNeg p0)) 3 (upd ((va_up a 2 (upd (a 2) ((s 4)).toNatClampNeg p0)) 3) ((s 4)).toNatClampNeg p1))) rfl rfl rfl (wX_ast3 _ _ _) ?_
    refine J_aload_n d_XA_add_30 rfl ?_
    refine J_dup d_XA_add_31 rfl ?_
    refine J_get (j := 2) (v := .int (s 4)) d_XA_add_32 (wX_at1 _ _) rfl in_1 (by decide) ts_39 rfl ?_
    refine J_iconst (v := (1 : Int32)) d_XA_add_35 (by decide) ?_
    refine J_iadd d_XA_add_36 ?_
    refine J_put (j := 2) d_XA_add_37 (wX_at1 _ _) rfl in_1 ty_XA tyok_XA nok_XA (by decide) ts_39 rfl (tyok_XA 2 (by decide)) rfl rfl (Nat.le_of_ble_eq_true rfl) ?_
    refine J_eq rfl rfl rfl (wX_put4 _ _ _) ?_
    refine J_aload_n d_XA_add_40 rfl ?_
    refine J_dup d_XA_add_41 rfl ?_
    refine J_get (j := 3) (v := .int ((upd s 4 ((s 4) + (1 : Int32))) 5)) d_XA_add_42 (wX_at1 _ _) rfl in_1 (by decide) ts_51 rfl ?_
    refine J_iconst (v := (1 : Int32)) d_XA_add_45 (by decide) ?_
    refine J_iadd d_XA_add_46 ?_
    refine J_put (j := 3) d_XA_add_47 (wX_at1 _ _) rfl in_1 ty_XA tyok_XA nok_XA (by decide) ts_51 rfl (tyok_XA 3 (by decide)) rfl rfl (Nat.le_of_ble_eq_true rfl) ?_
    refine J_eq rfl rfl rfl (wX_put5 _ _ _) ?_
    refine J_aload_n d_XA_add_50 rfl ?_
    refine J_get (j := 2) (v := .int ((s 4) + (1 : Int32))) d_XA_add_51 (wX_at1 _ _) rfl in_1 (by decide) ts_39 rfl ?_
    refine J_iconst (v := (1 : Int32)) d_XA_add_54 (by decide) ?_
    refine J_isub d_XA_add_55 ?_
    exact J_iret d_XA_add_56 rfl rfl (by cases h; exact ⟨rfl, rfl⟩)
  · have h := j_ifn c h
    refine J_bipush (v := (-4 : Int32)) d_XA_add_7 (by decide) ?_
    exact J_iret d_XA_add_9 rfl rfl (by cases h; exact ⟨rfl, rfl⟩)
abbrev rm_XA_leftOf : Room := { frames := 0, cells := 0, slots := 0, locals := 0 }
abbrev K_XA_leftOf (l : Launch) := JW l vwCl NsG TsG "ClassifySort$Axioms" prog_2_method_5_code 2 (some .int) rm_XA_leftOf
def m_XA_leftOf (s : jS) (a : jB) (p0 : Int32) : Option (Int32) := jb (if p0 < (0 : Int32) then some (0 : Int32) else (if (s 4) ≤ p0 then some (0 : Int32) else jg (jin p0 40) (some ((a 2) (p0).toNatClampNeg)))) (fun b1 => some (b1))
set_option maxRecDepth 100000 in
set_option maxHeartbeats 4000000 in
theorem c_XA_leftOf (l : Launch) (s : jS) (a : jB) (p0 : Int32) (r : Int32) (h : m_XA_leftOf s a p0 = some r) : JMet l vwCl NsG (.code y_XA_leftOf prog_2_method_5_code 2 (some .int) :: TsG) y_XA_leftOf rm_XA_leftOf [.ref 1, .int p0] (wX s a) (fun v w => v = some (.int r) ∧ w = wX s a) := by
  refine J_enter (by decide +kernel) rfl (Nat.le_of_ble_eq_true rfl) ?_
  unfold m_XA_leftOf at h
  refine J_eq (ls' := [some (.ref 1), some (.int p0)]) rfl rfl rfl rfl ?_
  refine J_iload_n d_XA_leftOf_0 rfl ?_
  obtain ⟨b1, hb1, h⟩ := jb_some h
  have kb1 : K_XA_leftOf l 22 [some (.ref 1), some (.int p0)] [.int b1] (wX s a) (fun v w => v = some (.int r) ∧ w = wX s a) := by
    exact J_iret d_XA_leftOf_22 rfl rfl (by cases h; exact ⟨rfl, rfl⟩)
  clear h
  have h := hb1
  refine J_if_lt (tgt := 21) d_XA_leftOf_1 (by decide) (fun c => ?_) (fun c => ?_)
  · have h := j_ifp c h
    refine J_iconst (v := (0 : Int32)) d_XA_leftOf_21 (by decide) ?_
    cases h
    exact kb1
  · have h := j_ifn c h
    refine J_iload_n d_XA_leftOf_4 rfl ?_
    refine J_aload_n d_XA_leftOf_5 rfl ?_
    refine J_get (j := 2) (v := .int (s 4)) d_XA_leftOf_6 (wX_at1 _ _) rfl in_1 (by decide) ts_39 rfl ?_
    refine J_icmp_ge (tgt := 21) d_XA_leftOf_9 (by decide) (fun c => ?_) (fun c => ?_)
    · have h := j_ifp c h
      refine J_iconst (v := (0 : Int32)) d_XA_leftOf_21 (by decide) ?_
      cases h
      exact kb1
    · have h := j_ifn c h
      refine J_aload_n d_XA_leftOf_12 rfl ?_
      refine J_get (j := 0) (v := .ref 2) d_XA_leftOf_13 (wX_at1 _ _) rfl in_1 (by decide) ts_49 rfl ?_
      refine J_iload_n d_XA_leftOf_16 rfl ?_
      obtain ⟨g, h⟩ := jg_some h
      refine J_iald (f := (a 2)) d_XA_leftOf_17 (wX_at2 _ _) (jin_in g) ?_
      refine J_goto (tgt := 22) d_XA_leftOf_18 (by decide) ?_
      cases h
      exact kb1
abbrev rm_XA_touchedBy : Room := { frames := 1, cells := 0, slots := 0, locals := 21 }
abbrev K_XA_touchedBy (l : Launch) := JW l vwCl NsG TsG "ClassifySort$Axioms" prog_2_method_10_code 6 (some .int) rm_XA_touchedBy
def L_XA_touchedBy_20 (s : jS) (a : jB) (k78 : Int32 → Option (Int32)) : Nat → Int32 → Int32 → Option (Int32)
  | 0, _, _ => none
  | f + 1, x2, x5 => (if (s 4) ≤ x5 then k78 (x2) else jg (jin x5 40) ((if ((a 2) (x5).toNatClampNeg) = (0 : Int32) then L_XA_touchedBy_20 s a k78 f (x2) ((x5 + (1 : Int32))) else jg (jin x5 40) (jg (jin x5 40) (jb (m_X_bit ((a 3) (x5).toNatClampNeg)) (fun v4 => (if ((((a 2) (x5).toNatClampNeg) ||| v4) &&& x2) = (0 : Int32) then L_XA_touchedBy_20 s a k78 f (x2) ((x5 + (1 : Int32))) else jg (jin x5 40) (L_XA_touchedBy_20 s a k78 f ((x2 ||| ((a 2) (x5).toNatClampNeg))) ((x5 + (1 : Int32)))))))))))
set_option maxRecDepth 100000 in
set_option maxHeartbeats 4000000 in
theorem JL_XA_touchedBy_20 (l : Launch) (s : jS) (a : jB) (c3 : Int32) (c4 : Int32) (k78 : Int32 → Option (Int32)) (r : Int32) (hk78 : ∀ (x2 : Int32) (o1 : Option Value) (o5 : Option Value), k78 x2 = some r → K_XA_touchedBy l 78 [some (.ref 1), o1, some (.int x2), some (.int c3), some (.int c4), o5] [] (wX s a) (fun v w => v = some (.int r) ∧ w = wX s a)) : ∀ (f : Nat), ∀ (x2 : Int32) (x5 : Int32) (o1 : Option Value), L_XA_touchedBy_20 s a k78 f x2 x5 = some r → K_XA_touchedBy l 20 [some (.ref 1), o1, some (.int x2), some (.int c3), some (.int c4), some (.int x5)] [] (wX s a) (fun v w => v = some (.int r) ∧ w = wX s a) := by
  intro f
  induction f with
  | zero =>
    intro x2 x5 o1 h
    cases h
  | succ f ih =>
    intro x2 x5 o1 h
    rw [L_XA_touchedBy_20] at h
    refine J_iload d_XA_touchedBy_20 rfl ?_
    refine J_aload_n d_XA_touchedBy_22 rfl ?_
    refine J_get (j := 2) (v := .int (s 4)) d_XA_touchedBy_23 (wX_at1 _ _) rfl in_1 (by decide) ts_39 rfl ?_
    refine J_icmp_ge (tgt := 78) d_XA_touchedBy_26 (by decide) (fun c => ?_) (fun c => ?_)
    · have h := j_ifp c h
      exact hk78 _ _ _ h
    · have h := j_ifn c h
      refine J_aload_n d_XA_touchedBy_29 rfl ?_
      refine J_get (j := 0) (v := .ref 2) d_XA_touchedBy_30 (wX_at1 _ _) rfl in_1 (by decide) ts_49 rfl ?_
      refine J_iload d_XA_touchedBy_33 rfl ?_
      obtain ⟨g, h⟩ := jg_some h
      refine J_iald (f := (a 2)) d_XA_touchedBy_35 (wX_at2 _ _) (jin_in g) ?_
      refine J_if_eq (tgt := 72) d_XA_touchedBy_36 (by decide) (fun c => ?_) (fun c => ?_)
      · have h := j_ifp c h
        refine J_iinc (v := (x5 + (1 : Int32))) d_XA_touchedBy_72 rfl (by first | rfl | decide) (by decide) ?_
        refine J_goto (tgt := 20) d_XA_touchedBy_75 (by decide) ?_
        exact ih _ _ _ h
      · have h := j_ifn c h
        refine J_aload_n d_XA_touchedBy_39 rfl ?_
        refine J_get (j := 0) (v := .ref 2) d_XA_touchedBy_40 (wX_at1 _ _) rfl in_1 (by decide) ts_49 rfl ?_
        refine J_iload d_XA_touchedBy_43 rfl ?_
        obtain ⟨g, h⟩ := jg_some h
        refine J_iald (f := (a 2)) d_XA_touchedBy_45 (wX_at2 _ _) (jin_in g) ?_
        refine J_aload_n d_XA_touchedBy_46 rfl ?_
        refine J_get (j := 1) (v := .ref 3) d_XA_touchedBy_47 (wX_at1 _ _) rfl in_1 (by decide) ts_50 rfl ?_
        refine J_iload d_XA_touchedBy_50 rfl ?_
        obtain ⟨g, h⟩ := jg_some h
        refine J_iald (f := (a 3)) d_XA_touchedBy_52 (wX_at3 _ _) (jin_in g) ?_
        obtain ⟨v4, e3, h⟩ := jb_some h
        refine J_cSi1N d_XA_touchedBy_53 (c_X_bit l _ _ _ e3) ts_3 ts_good rfl rfl ts_4 ns_2 dy_X_bit (by decide) (Nat.le_of_ble_eq_true rfl) ts_5 ?_
        refine J_ior d_XA_touchedBy_56 ?_
        refine J_iload_n d_XA_touchedBy_57 rfl ?_
        refine J_iand d_XA_touchedBy_58 ?_
        refine J_if_eq (tgt := 72) d_XA_touchedBy_59 (by decide) (fun c => ?_) (fun c => ?_)
        · have h := j_ifp c h
          refine J_iinc (v := (x5 + (1 : Int32))) d_XA_touchedBy_72 rfl (by first | rfl | decide) (by decide) ?_
          refine J_goto (tgt := 20) d_XA_touchedBy_75 (by decide) ?_
          exact ih _ _ _ h
        · have h := j_ifn c h
          refine J_iload_n d_XA_touchedBy_62 rfl ?_
          refine J_aload_n d_XA_touchedBy_63 rfl ?_
          refine J_get (j := 0) (v := .ref 2) d_XA_touchedBy_64 (wX_at1 _ _) rfl in_1 (by decide) ts_49 rfl ?_
          refine J_iload d_XA_touchedBy_67 rfl ?_
          obtain ⟨g, h⟩ := jg_some h
          refine J_iald (f := (a 2)) d_XA_touchedBy_69 (wX_at2 _ _) (jin_in g) ?_
          refine J_ior d_XA_touchedBy_70 ?_
          refine J_istore_n d_XA_touchedBy_71 (by decide) ?_
          refine J_iinc (v := (x5 + (1 : Int32))) d_XA_touchedBy_72 rfl (by first | rfl | decide) (by decide) ?_
          refine J_goto (tgt := 20) d_XA_touchedBy_75 (by decide) ?_
          exact ih _ _ _ h
def L_XA_touchedBy_8 (s : jS) (a : jB) (k92 : Int32 → Option (Int32)) : Nat → Int32 → Int32 → Option (Int32)
  | 0, _, _ => none
  | f + 1, x2, x3 => (if (20 : Int32) ≤ x3 then k92 (x2) else L_XA_touchedBy_20 (s) (a) (fun x5 => (if x5 = x2 then some (x5) else L_XA_touchedBy_8 s a k92 f (x5) ((x3 + (1 : Int32))))) jF (x2) ((0 : Int32)))
set_option maxRecDepth 100000 in
set_option maxHeartbeats 4000000 in
theorem JL_XA_touchedBy_8 (l : Launch) (s : jS) (a : jB) (k92 : Int32 → Option (Int32)) (r : Int32) (hk92 : ∀ (x2 : Int32) (o1 : Option Value) (o3 : Option Value) (o4 : Option Value) (o5 : Option Value), k92 x2 = some r → K_XA_touchedBy l 92 [some (.ref 1), o1, some (.int x2), o3, o4, o5] [] (wX s a) (fun v w => v = some (.int r) ∧ w = wX s a)) : ∀ (f : Nat), ∀ (x2 : Int32) (x3 : Int32) (o1 : Option Value) (o4 : Option Value) (o5 : Option Value), L_XA_touchedBy_8 s a k92 f x2 x3 = some r → K_XA_touchedBy l 8 [some (.ref 1), o1, some (.int x2), some (.int x3), o4, o5] [] (wX s a) (fun v w => v = some (.int r) ∧ w = wX s a) := by
  intro f
  induction f with
  | zero =>
    intro x2 x3 o1 o4 o5 h
    cases h
  | succ f ih =>
    intro x2 x3 o1 o4 o5 h
    rw [L_XA_touchedBy_8] at h
    refine J_iload_n d_XA_touchedBy_8 rfl ?_
    refine J_bipush (v := (20 : Int32)) d_XA_touchedBy_9 (by decide) ?_
    refine J_icmp_ge (tgt := 92) d_XA_touchedBy_11 (by decide) (fun c => ?_) (fun c => ?_)
    · have h := j_ifp c h
      exact hk92 _ _ _ _ _ h
    · have h := j_ifn c h
      refine J_iload_n d_XA_touchedBy_14 rfl ?_
      refine J_istore d_XA_touchedBy_15 (by decide) ?_
      refine J_iconst (v := (0 : Int32)) d_XA_touchedBy_17 (by decide) ?_
      refine J_istore d_XA_touchedBy_18 (by decide) ?_
      refine JL_XA_touchedBy_20 l _ _ _ _ _ r (fun x5 o6 o7 h => ?_) jF _ _ _ h
      refine J_iload_n d_XA_touchedBy_78 rfl ?_
      refine J_iload d_XA_touchedBy_79 rfl ?_
      refine J_icmp_ne (tgt := 86) d_XA_touchedBy_81 (by decide) (fun c => ?_) (fun c => ?_)
      · have h := j_ifn c h
        refine J_iinc (v := (x3 + (1 : Int32))) d_XA_touchedBy_86 rfl (by first | rfl | decide) (by decide) ?_
        refine J_goto (tgt := 8) d_XA_touchedBy_89 (by decide) ?_
        exact ih _ _ _ _ _ h
      · have h := j_ifp c h
        refine J_iload_n d_XA_touchedBy_84 rfl ?_
        exact J_iret d_XA_touchedBy_85 rfl rfl (by cases h; exact ⟨rfl, rfl⟩)
def m_XA_touchedBy (s : jS) (a : jB) (p0 : Int32) : Option (Int32) := jb (m_XA_leftOf s a p0) (fun v2 => L_XA_touchedBy_8 (s) (a) (fun x8 => some (x8)) jF (v2) ((0 : Int32)))
set_option maxRecDepth 100000 in
set_option maxHeartbeats 4000000 in
theorem c_XA_touchedBy (l : Launch) (s : jS) (a : jB) (p0 : Int32) (r : Int32) (h : m_XA_touchedBy s a p0 = some r) : JMet l vwCl NsG (.code y_XA_touchedBy prog_2_method_10_code 6 (some .int) :: TsG) y_XA_touchedBy rm_XA_touchedBy [.ref 1, .int p0] (wX s a) (fun v w => v = some (.int r) ∧ w = wX s a) := by
  refine J_enter (by decide +kernel) rfl (Nat.le_of_ble_eq_true rfl) ?_
  unfold m_XA_touchedBy at h
  refine J_eq (ls' := [some (.ref 1), some (.int p0), none, none, none, none]) rfl rfl rfl rfl ?_
  refine J_aload_n d_XA_touchedBy_0 rfl ?_
  refine J_iload_n d_XA_touchedBy_1 rfl ?_
  obtain ⟨v2, e1, h⟩ := jb_some h
  refine J_cVi1 d_XA_touchedBy_2 (c_XA_leftOf l _ _ _ _ e1) (wX_at1 _ _) rfl ts_56 ts_good rfl rfl ts_41 ts_57 dy_XA_leftOf (by decide) (Nat.le_of_ble_eq_true rfl) ts_58 ts_59 ?_
  refine J_istore_n d_XA_touchedBy_5 (by decide) ?_
  refine J_iconst (v := (0 : Int32)) d_XA_touchedBy_6 (by decide) ?_
  refine J_istore_n d_XA_touchedBy_7 (by decide) ?_
  refine JL_XA_touchedBy_8 l _ _ _ r (fun x8 o9 o10 o11 o12 h => ?_) jF _ _ _ _ _ h
  refine J_iload_n d_XA_touchedBy_92 rfl ?_
  exact J_iret d_XA_touchedBy_93 rfl rfl (by cases h; exact ⟨rfl, rfl⟩)
abbrev rm_XK_forgetNo : Room := { frames := 2, cells := 0, slots := 0, locals := 41 }
abbrev K_XK_forgetNo (l : Launch) := JW l vwCl NsG TsG "ClassifySort$Knowledge" prog_3_method_13_code 3 none rm_XK_forgetNo
def L_XK_forgetNo_2 (c1 : Int32) (k36 : jS → jB → Option (jS × jB)) : Nat → jS → jB → Int32 → Option (jS × jB)
  | 0, _, _, _ => none
  | f + 1, s, a, x2 => (if (20 : Int32) ≤ x2 then k36 (s) (a) else jb (m_X_has c1 x2) (fun v2 => (if v2 = (0 : Int32) then L_XK_forgetNo_2 c1 k36 f (s) (a) ((x2 + (1 : Int32))) else jg (jin x2 21) (jg (jin x2 21) (L_XK_forgetNo_2 c1 k36 f (s) ((va_up (va_up a 9 (upd (a 9) (x2).toNatClampNeg (0 : Int32))) 10 (upd ((va_up a 9 (upd (a 9) (x2).toNatClampNeg (0 : Int32))) 10) (x2).toNatClampNeg (0 : Int32)))) ((x2 + (1 : Int32))))))))
set_option maxRecDepth 100000 in
set_option maxHeartbeats 4000000 in
theorem JL_XK_forgetNo_2 (l : Launch) (c1 : Int32) (k36 : jS → jB → Option (jS × jB)) (r : jS × jB) (hk36 : ∀ (s : jS) (a : jB) (o2 : Option Value), k36 s a = some r → K_XK_forgetNo l 36 [some (.ref 6), some (.int c1), o2] [] (wX s a) (fun v w => v = none ∧ w = wX r.1 r.2)) : ∀ (f : Nat), ∀ (s : jS) (a : jB) (x2 : Int32), L_XK_forgetNo_2 c1 k36 f s a x2 = some r → K_XK_forgetNo l 2 [some (.ref 6), some (.int c1), some (.int x2)] [] (wX s a) (fun v w => v = none ∧ w = wX r.1 r.2) := by
  intro f
  induction f with
  | zero =>
    intro s a x2 h
    cases h
  | succ f ih =>
    intro s a x2 h
    rw [L_XK_forgetNo_2] at h
    refine J_iload_n d_XK_forgetNo_2 rfl ?_
    refine J_bipush (v := (20 : Int32)) d_XK_forgetNo_3 (by decide) ?_
    refine J_icmp_ge (tgt := 36) d_XK_forgetNo_5 (by decide) (fun c => ?_) (fun c => ?_)
    · have h := j_ifp c h
      exact hk36 _ _ _ h
    · have h := j_ifn c h
      refine J_iload_n d_XK_forgetNo_8 rfl ?_
      refine J_iload_n d_XK_forgetNo_9 rfl ?_
      obtain ⟨v2, e1, h⟩ := jb_some h
      refine J_cSi2N d_XK_forgetNo_10 (c_X_has l _ _ _ _ e1) ts_8 ts_good rfl rfl ts_4 ns_1 dy_X_has (by decide) (Nat.le_of_ble_eq_true rfl) ts_9 ?_
      refine J_if_eq (tgt := 30) d_XK_forgetNo_13 (by decide) (fun c => ?_) (fun c => ?_)
      · have h := j_ifp c h
        refine J_iinc (v := (x2 + (1 : Int32))) d_XK_forgetNo_30 rfl (by first | rfl | decide) (by decide) ?_
        refine J_goto (tgt := 2) d_XK_forgetNo_33 (by decide) ?_
        exact ih _ _ _ h
      · have h := j_ifn c h
        refine J_aload_n d_XK_forgetNo_16 rfl ?_
        refine J_get (j := 2) (v := .ref 9) d_XK_forgetNo_17 (wX_at6 _ _) rfl in_3 (by decide) ts_15 rfl ?_
        refine J_iload_n d_XK_forgetNo_20 rfl ?_
        refine J_iconst (v := (0 : Int32)) d_XK_forgetNo_21 (by decide) ?_
        obtain ⟨g, h⟩ := jg_some h
        refine J_iast (f := (a 9)) d_XK_forgetNo_22 (wX_at9 _ _) (jin_in g) ?_
        refine J_eq (ws' := wX s (va_up a 9 (upd (a 9) (x2).toNatClampNeg (0 : Int32)))) rfl rfl rfl (wX_ast9 _ _ _) ?_
        refine J_aload_n d_XK_forgetNo_23 rfl ?_
        refine J_get (j := 3) (v := .ref 10) d_XK_forgetNo_24 (wX_at6 _ _) rfl in_3 (by decide) ts_19 rfl ?_
        refine J_iload_n d_XK_forgetNo_27 rfl ?_
        refine J_iconst (v := (0 : Int32)) d_XK_forgetNo_28 (by decide) ?_
        obtain ⟨g, h⟩ := jg_some h
        refine J_iast (f := ((va_up a 9 (upd (a 9) (x2).toNatClampNeg (0 : Int32))) 10)) d_XK_forgetNo_29 (wX_at10 _ _) (jin_in g) ?_
        refine J_eq (ws' := wX s (va_up (va_up a 9 (upd (a 9) (x2).toNatClampNeg (0 : Int32))) 10 (upd ((va_up a 9 (upd (a 9) (x2).toNatClampNeg (0 : Int32))) 10) (x2).toNatClampNeg (0 : Int32)))) rfl rfl rfl (wX_ast10 _ _ _) ?_
        refine J_iinc (v := (x2 + (1 : Int32))) d_XK_forgetNo_30 rfl (by first | rfl | decide) (by decide) ?_
        refine J_goto (tgt := 2) d_XK_forgetNo_33 (by decide) ?_
        exact ih _ _ _ h
def m_XK_forgetNo (s : jS) (a : jB) (p0 : Int32) : Option (jS × jB) := L_XK_forgetNo_2 (p0) (fun s3 a4 => some (s3, a4)) jF (s) (a) ((0 : Int32))
set_option maxRecDepth 100000 in
set_option maxHeartbeats 4000000 in
theorem c_XK_forgetNo (l : Launch) (s : jS) (a : jB) (p0 : Int32) (r : jS × jB) (h : m_XK_forgetNo s a p0 = some r) : JMet l vwCl NsG (.code y_XK_forgetNo prog_3_method_13_code 3 none :: TsG) y_XK_forgetNo rm_XK_forgetNo [.ref 6, .int p0] (wX s a) (fun v w => v = none ∧ w = wX r.1 r.2) := by
  refine J_enter (by decide +kernel) rfl (Nat.le_of_ble_eq_true rfl) ?_
  unfold m_XK_forgetNo at h
  refine J_eq (ls' := [some (.ref 6), some (.int p0), none]) rfl rfl rfl rfl ?_
  refine J_iconst (v := (0 : Int32)) d_XK_forgetNo_0 (by decide) ?_
  refine J_istore_n d_XK_forgetNo_1 (by decide) ?_
  refine JL_XK_forgetNo_2 l _ _ r (fun s3 a4 o5 h => ?_) jF _ _ _ h
  exact J_vret d_XK_forgetNo_36 rfl (by cases h; exact ⟨rfl, rfl⟩)
abbrev rm_JI_bitCount : Room := { frames := 0, cells := 0, slots := 0, locals := 0 }
abbrev K_JI_bitCount (l : Launch) := JW l vwCl NsG TsG "java/lang/Integer" prog_8_method_49_code 1 (some .int) rm_JI_bitCount
def m_JI_bitCount (p0 : Int32) : Option (Int32) := jb (some (p0 - ((((p0).toUInt32 >>> (((1 : Int32)).toUInt32 &&& Int32.toUInt32 31)).toInt32) &&& (1431655765 : Int32)))) (fun y1 => jb (some ((y1 &&& (858993459 : Int32)) + ((((y1).toUInt32 >>> (((2 : Int32)).toUInt32 &&& Int32.toUInt32 31)).toInt32) &&& (858993459 : Int32)))) (fun y2 => jb (some ((y2 + (((y2).toUInt32 >>> (((4 : Int32)).toUInt32 &&& Int32.toUInt32 31)).toInt32)) &&& (252645135 : Int32))) (fun y3 => jb (some (y3 + (((y3).toUInt32 >>> (((8 : Int32)).toUInt32 &&& Int32.toUInt32 31)).toInt32))) (fun y4 => jb (some (y4 + (((y4).toUInt32 >>> (((16 : Int32)).toUInt32 &&& Int32.toUInt32 31)).toInt32))) (fun y5 => some ((y5 &&& (63 : Int32))))))))
set_option maxRecDepth 100000 in
set_option maxHeartbeats 4000000 in
theorem c_JI_bitCount (l : Launch) (ws : jW) (p0 : Int32) (r : Int32) (h : m_JI_bitCount p0 = some r) : JMet l vwCl NsG (.code y_JI_bitCount prog_8_method_49_code 1 (some .int) :: TsG) y_JI_bitCount rm_JI_bitCount [.int p0] ws (fun v w => v = some (.int r) ∧ w = ws) := by
  refine J_enter (by decide +kernel) rfl (Nat.le_of_ble_eq_true rfl) ?_
  unfold m_JI_bitCount at h
  refine J_eq (ls' := [some (.int p0)]) rfl rfl rfl rfl ?_
  refine J_iload_n d_JI_bitCount_0 rfl ?_
  refine J_iload_n d_JI_bitCount_1 rfl ?_
  refine J_iconst (v := (1 : Int32)) d_JI_bitCount_2 (by decide) ?_
  refine J_iushr d_JI_bitCount_3 ?_
  refine J_ldcw (v := (1431655765 : Int32)) d_JI_bitCount_4 ts_69 ?_
  refine J_iand d_JI_bitCount_7 ?_
  refine J_isub d_JI_bitCount_8 ?_
  obtain ⟨y1, qy1, h⟩ := jb_some h
  refine J_topi (Option.some.inj qy1) ?_
  refine J_istore_n d_JI_bitCount_9 (by decide) ?_
  refine J_iload_n d_JI_bitCount_10 rfl ?_
  refine J_ldcw (v := (858993459 : Int32)) d_JI_bitCount_11 ts_70 ?_
  refine J_iand d_JI_bitCount_14 ?_
  refine J_iload_n d_JI_bitCount_15 rfl ?_
  refine J_iconst (v := (2 : Int32)) d_JI_bitCount_16 (by decide) ?_
  refine J_iushr d_JI_bitCount_17 ?_
  refine J_ldcw (v := (858993459 : Int32)) d_JI_bitCount_18 ts_70 ?_
  refine J_iand d_JI_bitCount_21 ?_
  refine J_iadd d_JI_bitCount_22 ?_
  obtain ⟨y2, qy2, h⟩ := jb_some h
  refine J_topi (Option.some.inj qy2) ?_
  refine J_istore_n d_JI_bitCount_23 (by decide) ?_
  refine J_iload_n d_JI_bitCount_24 rfl ?_
  refine J_iload_n d_JI_bitCount_25 rfl ?_
  refine J_iconst (v := (4 : Int32)) d_JI_bitCount_26 (by decide) ?_
  refine J_iushr d_JI_bitCount_27 ?_
  refine J_iadd d_JI_bitCount_28 ?_
  refine J_ldcw (v := (252645135 : Int32)) d_JI_bitCount_29 ts_71 ?_
  refine J_iand d_JI_bitCount_32 ?_
  obtain ⟨y3, qy3, h⟩ := jb_some h
  refine J_topi (Option.some.inj qy3) ?_
  refine J_istore_n d_JI_bitCount_33 (by decide) ?_
  refine J_iload_n d_JI_bitCount_34 rfl ?_
  refine J_iload_n d_JI_bitCount_35 rfl ?_
  refine J_bipush (v := (8 : Int32)) d_JI_bitCount_36 (by decide) ?_
  refine J_iushr d_JI_bitCount_38 ?_
  refine J_iadd d_JI_bitCount_39 ?_
  obtain ⟨y4, qy4, h⟩ := jb_some h
  refine J_topi (Option.some.inj qy4) ?_
  refine J_istore_n d_JI_bitCount_40 (by decide) ?_
  refine J_iload_n d_JI_bitCount_41 rfl ?_
  refine J_iload_n d_JI_bitCount_42 rfl ?_
  refine J_bipush (v := (16 : Int32)) d_JI_bitCount_43 (by decide) ?_
  refine J_iushr d_JI_bitCount_45 ?_
  refine J_iadd d_JI_bitCount_46 ?_
  obtain ⟨y5, qy5, h⟩ := jb_some h
  refine J_topi (Option.some.inj qy5) ?_
  refine J_istore_n d_JI_bitCount_47 (by decide) ?_
  refine J_iload_n d_JI_bitCount_48 rfl ?_
  refine J_bipush (v := (63 : Int32)) d_JI_bitCount_49 (by decide) ?_
  refine J_iand d_JI_bitCount_51 ?_
  exact J_iret d_JI_bitCount_52 rfl rfl (by cases h; exact ⟨rfl, rfl⟩)
abbrev rm_JI_numberOfTrailingZeros : Room := { frames := 0, cells := 0, slots := 0, locals := 0 }
abbrev K_JI_numberOfTrailingZeros (l : Launch) := JW l vwCl NsG TsG "java/lang/Integer" prog_8_method_48_code 2 (some .int) rm_JI_numberOfTrailingZeros
def m_JI_numberOfTrailingZeros (p0 : Int32) : Option (Int32) := jb (some ((p0 ^^^ (-1 : Int32)) &&& (p0 - (1 : Int32)))) (fun y1 => (if (0 : Int32) < y1 then (if y1 ≤ (65536 : Int32) then (if y1 ≤ (256 : Int32) then (if y1 ≤ (16 : Int32) then (if y1 ≤ (4 : Int32) then some (((1 : Int32) + (((y1).toUInt32 >>> (((1 : Int32)).toUInt32 &&& Int32.toUInt32 31)).toInt32))) else jb (some (((y1).toUInt32 >>> (((2 : Int32)).toUInt32 &&& Int32.toUInt32 31)).toInt32)) (fun y2 => some ((((1 : Int32) + (2 : Int32)) + (((y2).toUInt32 >>> (((1 : Int32)).toUInt32 &&& Int32.toUInt32 31)).toInt32))))) else jb (some (((y1).toUInt32 >>> (((4 : Int32)).toUInt32 &&& Int32.toUInt32 31)).toInt32)) (fun y3 => (if y3 ≤ (4 : Int32) then some ((((1 : Int32) + (4 : Int32)) + (((y3).toUInt32 >>> (((1 : Int32)).toUInt32 &&& Int32.toUInt32 31)).toInt32))) else jb (some (((y3).toUInt32 >>> (((2 : Int32)).toUInt32 &&& Int32.toUInt32 31)).toInt32)) (fun y4 => some (((((1 : Int32) + (4 : Int32)) + (2 : Int32)) + (((y4).toUInt32 >>> (((1 : Int32)).toUInt32 &&& Int32.toUInt32 31)).toInt32))))))) else jb (some (((y1).toUInt32 >>> (((8 : Int32)).toUInt32 &&& Int32.toUInt32 31)).toInt32)) (fun y5 => (if y5 ≤ (16 : Int32) then (if y5 ≤ (4 : Int32) then some ((((1 : Int32) + (8 : Int32)) + (((y5).toUInt32 >>> (((1 : Int32)).toUInt32 &&& Int32.toUInt32 31)).toInt32))) else jb (some (((y5).toUInt32 >>> (((2 : Int32)).toUInt32 &&& Int32.toUInt32 31)).toInt32)) (fun y6 => some (((((1 : Int32) + (8 : Int32)) + (2 : Int32)) + (((y6).toUInt32 >>> (((1 : Int32)).toUInt32 &&& Int32.toUInt32 31)).toInt32))))) else jb (some (((y5).toUInt32 >>> (((4 : Int32)).toUInt32 &&& Int32.toUInt32 31)).toInt32)) (fun y7 => (if y7 ≤ (4 : Int32) then some (((((1 : Int32) + (8 : Int32)) + (4 : Int32)) + (((y7).toUInt32 >>> (((1 : Int32)).toUInt32 &&& Int32.toUInt32 31)).toInt32))) else jb (some (((y7).toUInt32 >>> (((2 : Int32)).toUInt32 &&& Int32.toUInt32 31)).toInt32)) (fun y8 => some ((((((1 : Int32) + (8 : Int32)) + (4 : Int32)) + (2 : Int32)) + (((y8).toUInt32 >>> (((1 : Int32)).toUInt32 &&& Int32.toUInt32 31)).toInt32))))))))) else jb (some (((y1).toUInt32 >>> (((16 : Int32)).toUInt32 &&& Int32.toUInt32 31)).toInt32)) (fun y9 => (if y9 ≤ (256 : Int32) then (if y9 ≤ (16 : Int32) then (if y9 ≤ (4 : Int32) then some ((((1 : Int32) + (16 : Int32)) + (((y9).toUInt32 >>> (((1 : Int32)).toUInt32 &&& Int32.toUInt32 31)).toInt32))) else jb (some (((y9).toUInt32 >>> (((2 : Int32)).toUInt32 &&& Int32.toUInt32 31)).toInt32)) (fun y10 => some (((((1 : Int32) + (16 : Int32)) + (2 : Int32)) + (((y10).toUInt32 >>> (((1 : Int32)).toUInt32 &&& Int32.toUInt32 31)).toInt32))))) else jb (some (((y9).toUInt32 >>> (((4 : Int32)).toUInt32 &&& Int32.toUInt32 31)).toInt32)) (fun y11 => (if y11 ≤ (4 : Int32) then some (((((1 : Int32) + (16 : Int32)) + (4 : Int32)) + (((y11).toUInt32 >>> (((1 : Int32)).toUInt32 &&& Int32.toUInt32 31)).toInt32))) else jb (some (((y11).toUInt32 >>> (((2 : Int32)).toUInt32 &&& Int32.toUInt32 31)).toInt32)) (fun y12 => some ((((((1 : Int32) + (16 : Int32)) + (4 : Int32)) + (2 : Int32)) + (((y12).toUInt32 >>> (((1 : Int32)).toUInt32 &&& Int32.toUInt32 31)).toInt32))))))) else jb (some (((y9).toUInt32 >>> (((8 : Int32)).toUInt32 &&& Int32.toUInt32 31)).toInt32)) (fun y13 => (if y13 ≤ (16 : Int32) then (if y13 ≤ (4 : Int32) then some (((((1 : Int32) + (16 : Int32)) + (8 : Int32)) + (((y13).toUInt32 >>> (((1 : Int32)).toUInt32 &&& Int32.toUInt32 31)).toInt32))) else jb (some (((y13).toUInt32 >>> (((2 : Int32)).toUInt32 &&& Int32.toUInt32 31)).toInt32)) (fun y14 => some ((((((1 : Int32) + (16 : Int32)) + (8 : Int32)) + (2 : Int32)) + (((y14).toUInt32 >>> (((1 : Int32)).toUInt32 &&& Int32.toUInt32 31)).toInt32))))) else jb (some (((y13).toUInt32 >>> (((4 : Int32)).toUInt32 &&& Int32.toUInt32 31)).toInt32)) (fun y15 => (if y15 ≤ (4 : Int32) then some ((((((1 : Int32) + (16 : Int32)) + (8 : Int32)) + (4 : Int32)) + (((y15).toUInt32 >>> (((1 : Int32)).toUInt32 &&& Int32.toUInt32 31)).toInt32))) else jb (some (((y15).toUInt32 >>> (((2 : Int32)).toUInt32 &&& Int32.toUInt32 31)).toInt32)) (fun y16 => some (((((((1 : Int32) + (16 : Int32)) + (8 : Int32)) + (4 : Int32)) + (2 : Int32)) + (((y16).toUInt32 >>> (((1 : Int32)).toUInt32 &&& Int32.toUInt32 31)).toInt32))))))))))) else some ((y1 &&& (32 : Int32)))))
set_option maxRecDepth 100000 in
set_option maxHeartbeats 4000000 in
theorem c_JI_numberOfTrailingZeros (l : Launch) (ws : jW) (p0 : Int32) (r : Int32) (h : m_JI_numberOfTrailingZeros p0 = some r) : JMet l vwCl NsG (.code y_JI_numberOfTrailingZeros prog_8_method_48_code 2 (some .int) :: TsG) y_JI_numberOfTrailingZeros rm_JI_numberOfTrailingZeros [.int p0] ws (fun v w => v = some (.int r) ∧ w = ws) := by
  refine J_enter (by decide +kernel) rfl (Nat.le_of_ble_eq_true rfl) ?_
  unfold m_JI_numberOfTrailingZeros at h
  refine J_eq (ls' := [some (.int p0), none]) rfl rfl rfl rfl ?_
  refine J_iload_n d_JI_numberOfTrailingZeros_0 rfl ?_
  refine J_iconst (v := (-1 : Int32)) d_JI_numberOfTrailingZeros_1 (by decide) ?_
  refine J_ixor d_JI_numberOfTrailingZeros_2 ?_
  refine J_iload_n d_JI_numberOfTrailingZeros_3 rfl ?_
  refine J_iconst (v := (1 : Int32)) d_JI_numberOfTrailingZeros_4 (by decide) ?_
  refine J_isub d_JI_numberOfTrailingZeros_5 ?_
  refine J_iand d_JI_numberOfTrailingZeros_6 ?_
  obtain ⟨y1, qy1, h⟩ := jb_some h
  refine J_topi (Option.some.inj qy1) ?_
  refine J_istore_n d_JI_numberOfTrailingZeros_7 (by decide) ?_
  refine J_iload_n d_JI_numberOfTrailingZeros_8 rfl ?_
  refine J_if_gt (tgt := 17) d_JI_numberOfTrailingZeros_9 (by decide) (fun c => ?_) (fun c => ?_)
  · have h := j_ifp c h
    refine J_iconst (v := (1 : Int32)) d_JI_numberOfTrailingZeros_17 (by decide) ?_
    refine J_istore_n d_JI_numberOfTrailingZeros_18 (by decide) ?_
    refine J_iload_n d_JI_numberOfTrailingZeros_19 rfl ?_
    refine J_ldcw (v := (65536 : Int32)) d_JI_numberOfTrailingZeros_20 ts_76 ?_
    refine J_icmp_le (tgt := 34) d_JI_numberOfTrailingZeros_23 (by decide) (fun c => ?_) (fun c => ?_)
    · have h := j_ifp c h
      refine J_iload_n d_JI_numberOfTrailingZeros_34 rfl ?_
      refine J_sipush (v := (256 : Int32)) d_JI_numberOfTrailingZeros_35 (by decide) ?_
      refine J_icmp_le (tgt := 49) d_JI_numberOfTrailingZeros_38 (by decide) (fun c => ?_) (fun c => ?_)
      · have h := j_ifp c h
        refine J_iload_n d_JI_numberOfTrailingZeros_49 rfl ?_
        refine J_bipush (v := (16 : Int32)) d_JI_numberOfTrailingZeros_50 (by decide) ?_
        refine J_icmp_le (tgt := 62) d_JI_numberOfTrailingZeros_52 (by decide) (fun c => ?_) (fun c => ?_)
        · have h := j_ifp c h
          refine J_iload_n d_JI_numberOfTrailingZeros_62 rfl ?_
          refine J_iconst (v := (4 : Int32)) d_JI_numberOfTrailingZeros_63 (by decide) ?_
          refine J_icmp_le (tgt := 74) d_JI_numberOfTrailingZeros_64 (by decide) (fun c => ?_) (fun c => ?_)
          · have h := j_ifp c h
            refine J_iload_n d_JI_numberOfTrailingZeros_74 rfl ?_
            refine J_iload_n d_JI_numberOfTrailingZeros_75 rfl ?_
            refine J_iconst (v := (1 : Int32)) d_JI_numberOfTrailingZeros_76 (by decide) ?_
            refine J_iushr d_JI_numberOfTrailingZeros_77 ?_
            refine J_iadd d_JI_numberOfTrailingZeros_78 ?_
            exact J_iret d_JI_numberOfTrailingZeros_79 rfl rfl (by cases h; exact ⟨rfl, rfl⟩)
          · have h := j_ifn c h
            refine J_iinc (v := ((1 : Int32) + (2 : Int32))) d_JI_numberOfTrailingZeros_67 rfl (by first | rfl | decide) (by decide) ?_
            refine J_iload_n d_JI_numberOfTrailingZeros_70 rfl ?_
            refine J_iconst (v := (2 : Int32)) d_JI_numberOfTrailingZeros_71 (by decide) ?_
            refine J_iushr d_JI_numberOfTrailingZeros_72 ?_
            obtain ⟨y2, qy2, h⟩ := jb_some h
            refine J_topi (Option.some.inj qy2) ?_
            refine J_istore_n d_JI_numberOfTrailingZeros_73 (by decide) ?_
            refine J_iload_n d_JI_numberOfTrailingZeros_74 rfl ?_
            refine J_iload_n d_JI_numberOfTrailingZeros_75 rfl ?_
            refine J_iconst (v := (1 : Int32)) d_JI_numberOfTrailingZeros_76 (by decide) ?_
            refine J_iushr d_JI_numberOfTrailingZeros_77 ?_
            refine J_iadd d_JI_numberOfTrailingZeros_78 ?_
            exact J_iret d_JI_numberOfTrailingZeros_79 rfl rfl (by cases h; exact ⟨rfl, rfl⟩)
        · have h := j_ifn c h
          refine J_iinc (v := ((1 : Int32) + (4 : Int32))) d_JI_numberOfTrailingZeros_55 rfl (by first | rfl | decide) (by decide) ?_
          refine J_iload_n d_JI_numberOfTrailingZeros_58 rfl ?_
          refine J_iconst (v := (4 : Int32)) d_JI_numberOfTrailingZeros_59 (by decide) ?_
          refine J_iushr d_JI_numberOfTrailingZeros_60 ?_
          obtain ⟨y3, qy3, h⟩ := jb_some h
          refine J_topi (Option.some.inj qy3) ?_
          refine J_istore_n d_JI_numberOfTrailingZeros_61 (by decide) ?_
          refine J_iload_n d_JI_numberOfTrailingZeros_62 rfl ?_
          refine J_iconst (v := (4 : Int32)) d_JI_numberOfTrailingZeros_63 (by decide) ?_
          refine J_icmp_le (tgt := 74) d_JI_numberOfTrailingZeros_64 (by decide) (fun c => ?_) (fun c => ?_)
          · have h := j_ifp c h
            refine J_iload_n d_JI_numberOfTrailingZeros_74 rfl ?_
            refine J_iload_n d_JI_numberOfTrailingZeros_75 rfl ?_
            refine J_iconst (v := (1 : Int32)) d_JI_numberOfTrailingZeros_76 (by decide) ?_
            refine J_iushr d_JI_numberOfTrailingZeros_77 ?_
            refine J_iadd d_JI_numberOfTrailingZeros_78 ?_
            exact J_iret d_JI_numberOfTrailingZeros_79 rfl rfl (by cases h; exact ⟨rfl, rfl⟩)
          · have h := j_ifn c h
            refine J_iinc (v := (((1 : Int32) + (4 : Int32)) + (2 : Int32))) d_JI_numberOfTrailingZeros_67 rfl (by first | rfl | decide) (by decide) ?_
            refine J_iload_n d_JI_numberOfTrailingZeros_70 rfl ?_
            refine J_iconst (v := (2 : Int32)) d_JI_numberOfTrailingZeros_71 (by decide) ?_
            refine J_iushr d_JI_numberOfTrailingZeros_72 ?_
            obtain ⟨y4, qy4, h⟩ := jb_some h
            refine J_topi (Option.some.inj qy4) ?_
            refine J_istore_n d_JI_numberOfTrailingZeros_73 (by decide) ?_
            refine J_iload_n d_JI_numberOfTrailingZeros_74 rfl ?_
            refine J_iload_n d_JI_numberOfTrailingZeros_75 rfl ?_
            refine J_iconst (v := (1 : Int32)) d_JI_numberOfTrailingZeros_76 (by decide) ?_
            refine J_iushr d_JI_numberOfTrailingZeros_77 ?_
            refine J_iadd d_JI_numberOfTrailingZeros_78 ?_
            exact J_iret d_JI_numberOfTrailingZeros_79 rfl rfl (by cases h; exact ⟨rfl, rfl⟩)
      · have h := j_ifn c h
        refine J_iinc (v := ((1 : Int32) + (8 : Int32))) d_JI_numberOfTrailingZeros_41 rfl (by first | rfl | decide) (by decide) ?_
        refine J_iload_n d_JI_numberOfTrailingZeros_44 rfl ?_
        refine J_bipush (v := (8 : Int32)) d_JI_numberOfTrailingZeros_45 (by decide) ?_
        refine J_iushr d_JI_numberOfTrailingZeros_47 ?_
        obtain ⟨y5, qy5, h⟩ := jb_some h
        refine J_topi (Option.some.inj qy5) ?_
        refine J_istore_n d_JI_numberOfTrailingZeros_48 (by decide) ?_
        refine J_iload_n d_JI_numberOfTrailingZeros_49 rfl ?_
        refine J_bipush (v := (16 : Int32)) d_JI_numberOfTrailingZeros_50 (by decide) ?_
        refine J_icmp_le (tgt := 62) d_JI_numberOfTrailingZeros_52 (by decide) (fun c => ?_) (fun c => ?_)
        · have h := j_ifp c h
          refine J_iload_n d_JI_numberOfTrailingZeros_62 rfl ?_
          refine J_iconst (v := (4 : Int32)) d_JI_numberOfTrailingZeros_63 (by decide) ?_
          refine J_icmp_le (tgt := 74) d_JI_numberOfTrailingZeros_64 (by decide) (fun c => ?_) (fun c => ?_)
          · have h := j_ifp c h
            refine J_iload_n d_JI_numberOfTrailingZeros_74 rfl ?_
            refine J_iload_n d_JI_numberOfTrailingZeros_75 rfl ?_
            refine J_iconst (v := (1 : Int32)) d_JI_numberOfTrailingZeros_76 (by decide) ?_
            refine J_iushr d_JI_numberOfTrailingZeros_77 ?_
            refine J_iadd d_JI_numberOfTrailingZeros_78 ?_
            exact J_iret d_JI_numberOfTrailingZeros_79 rfl rfl (by cases h; exact ⟨rfl, rfl⟩)
          · have h := j_ifn c h
            refine J_iinc (v := (((1 : Int32) + (8 : Int32)) + (2 : Int32))) d_JI_numberOfTrailingZeros_67 rfl (by first | rfl | decide) (by decide) ?_
            refine J_iload_n d_JI_numberOfTrailingZeros_70 rfl ?_
            refine J_iconst (v := (2 : Int32)) d_JI_numberOfTrailingZeros_71 (by decide) ?_
            refine J_iushr d_JI_numberOfTrailingZeros_72 ?_
            obtain ⟨y6, qy6, h⟩ := jb_some h
            refine J_topi (Option.some.inj qy6) ?_
            refine J_istore_n d_JI_numberOfTrailingZeros_73 (by decide) ?_
            refine J_iload_n d_JI_numberOfTrailingZeros_74 rfl ?_
            refine J_iload_n d_JI_numberOfTrailingZeros_75 rfl ?_
            refine J_iconst (v := (1 : Int32)) d_JI_numberOfTrailingZeros_76 (by decide) ?_
            refine J_iushr d_JI_numberOfTrailingZeros_77 ?_
            refine J_iadd d_JI_numberOfTrailingZeros_78 ?_
            exact J_iret d_JI_numberOfTrailingZeros_79 rfl rfl (by cases h; exact ⟨rfl, rfl⟩)
        · have h := j_ifn c h
          refine J_iinc (v := (((1 : Int32) + (8 : Int32)) + (4 : Int32))) d_JI_numberOfTrailingZeros_55 rfl (by first | rfl | decide) (by decide) ?_
          refine J_iload_n d_JI_numberOfTrailingZeros_58 rfl ?_
          refine J_iconst (v := (4 : Int32)) d_JI_numberOfTrailingZeros_59 (by decide) ?_
          refine J_iushr d_JI_numberOfTrailingZeros_60 ?_
          obtain ⟨y7, qy7, h⟩ := jb_some h
          refine J_topi (Option.some.inj qy7) ?_
          refine J_istore_n d_JI_numberOfTrailingZeros_61 (by decide) ?_
          refine J_iload_n d_JI_numberOfTrailingZeros_62 rfl ?_
          refine J_iconst (v := (4 : Int32)) d_JI_numberOfTrailingZeros_63 (by decide) ?_
          refine J_icmp_le (tgt := 74) d_JI_numberOfTrailingZeros_64 (by decide) (fun c => ?_) (fun c => ?_)
          · have h := j_ifp c h
            refine J_iload_n d_JI_numberOfTrailingZeros_74 rfl ?_
            refine J_iload_n d_JI_numberOfTrailingZeros_75 rfl ?_
            refine J_iconst (v := (1 : Int32)) d_JI_numberOfTrailingZeros_76 (by decide) ?_
            refine J_iushr d_JI_numberOfTrailingZeros_77 ?_
            refine J_iadd d_JI_numberOfTrailingZeros_78 ?_
            exact J_iret d_JI_numberOfTrailingZeros_79 rfl rfl (by cases h; exact ⟨rfl, rfl⟩)
          · have h := j_ifn c h
            refine J_iinc (v := ((((1 : Int32) + (8 : Int32)) + (4 : Int32)) + (2 : Int32))) d_JI_numberOfTrailingZeros_67 rfl (by first | rfl | decide) (by decide) ?_
            refine J_iload_n d_JI_numberOfTrailingZeros_70 rfl ?_
            refine J_iconst (v := (2 : Int32)) d_JI_numberOfTrailingZeros_71 (by decide) ?_
            refine J_iushr d_JI_numberOfTrailingZeros_72 ?_
            obtain ⟨y8, qy8, h⟩ := jb_some h
            refine J_topi (Option.some.inj qy8) ?_
            refine J_istore_n d_JI_numberOfTrailingZeros_73 (by decide) ?_
            refine J_iload_n d_JI_numberOfTrailingZeros_74 rfl ?_
            refine J_iload_n d_JI_numberOfTrailingZeros_75 rfl ?_
            refine J_iconst (v := (1 : Int32)) d_JI_numberOfTrailingZeros_76 (by decide) ?_
            refine J_iushr d_JI_numberOfTrailingZeros_77 ?_
            refine J_iadd d_JI_numberOfTrailingZeros_78 ?_
            exact J_iret d_JI_numberOfTrailingZeros_79 rfl rfl (by cases h; exact ⟨rfl, rfl⟩)
    · have h := j_ifn c h
      refine J_iinc (v := ((1 : Int32) + (16 : Int32))) d_JI_numberOfTrailingZeros_26 rfl (by first | rfl | decide) (by decide) ?_
      refine J_iload_n d_JI_numberOfTrailingZeros_29 rfl ?_
      refine J_bipush (v := (16 : Int32)) d_JI_numberOfTrailingZeros_30 (by decide) ?_
      refine J_iushr d_JI_numberOfTrailingZeros_32 ?_
      obtain ⟨y9, qy9, h⟩ := jb_some h
      refine J_topi (Option.some.inj qy9) ?_
      refine J_istore_n d_JI_numberOfTrailingZeros_33 (by decide) ?_
      refine J_iload_n d_JI_numberOfTrailingZeros_34 rfl ?_
      refine J_sipush (v := (256 : Int32)) d_JI_numberOfTrailingZeros_35 (by decide) ?_
      refine J_icmp_le (tgt := 49) d_JI_numberOfTrailingZeros_38 (by decide) (fun c => ?_) (fun c => ?_)
      · have h := j_ifp c h
        refine J_iload_n d_JI_numberOfTrailingZeros_49 rfl ?_
        refine J_bipush (v := (16 : Int32)) d_JI_numberOfTrailingZeros_50 (by decide) ?_
        refine J_icmp_le (tgt := 62) d_JI_numberOfTrailingZeros_52 (by decide) (fun c => ?_) (fun c => ?_)
        · have h := j_ifp c h
          refine J_iload_n d_JI_numberOfTrailingZeros_62 rfl ?_
          refine J_iconst (v := (4 : Int32)) d_JI_numberOfTrailingZeros_63 (by decide) ?_
          refine J_icmp_le (tgt := 74) d_JI_numberOfTrailingZeros_64 (by decide) (fun c => ?_) (fun c => ?_)
          · have h := j_ifp c h
            refine J_iload_n d_JI_numberOfTrailingZeros_74 rfl ?_
            refine J_iload_n d_JI_numberOfTrailingZeros_75 rfl ?_
            refine J_iconst (v := (1 : Int32)) d_JI_numberOfTrailingZeros_76 (by decide) ?_
            refine J_iushr d_JI_numberOfTrailingZeros_77 ?_
            refine J_iadd d_JI_numberOfTrailingZeros_78 ?_
            exact J_iret d_JI_numberOfTrailingZeros_79 rfl rfl (by cases h; exact ⟨rfl, rfl⟩)
          · have h := j_ifn c h
            refine J_iinc (v := (((1 : Int32) + (16 : Int32)) + (2 : Int32))) d_JI_numberOfTrailingZeros_67 rfl (by first | rfl | decide) (by decide) ?_
            refine J_iload_n d_JI_numberOfTrailingZeros_70 rfl ?_
            refine J_iconst (v := (2 : Int32)) d_JI_numberOfTrailingZeros_71 (by decide) ?_
            refine J_iushr d_JI_numberOfTrailingZeros_72 ?_
            obtain ⟨y10, qy10, h⟩ := jb_some h
            refine J_topi (Option.some.inj qy10) ?_
            refine J_istore_n d_JI_numberOfTrailingZeros_73 (by decide) ?_
            refine J_iload_n d_JI_numberOfTrailingZeros_74 rfl ?_
            refine J_iload_n d_JI_numberOfTrailingZeros_75 rfl ?_
            refine J_iconst (v := (1 : Int32)) d_JI_numberOfTrailingZeros_76 (by decide) ?_
            refine J_iushr d_JI_numberOfTrailingZeros_77 ?_
            refine J_iadd d_JI_numberOfTrailingZeros_78 ?_
            exact J_iret d_JI_numberOfTrailingZeros_79 rfl rfl (by cases h; exact ⟨rfl, rfl⟩)
        · have h := j_ifn c h
          refine J_iinc (v := (((1 : Int32) + (16 : Int32)) + (4 : Int32))) d_JI_numberOfTrailingZeros_55 rfl (by first | rfl | decide) (by decide) ?_
          refine J_iload_n d_JI_numberOfTrailingZeros_58 rfl ?_
          refine J_iconst (v := (4 : Int32)) d_JI_numberOfTrailingZeros_59 (by decide) ?_
          refine J_iushr d_JI_numberOfTrailingZeros_60 ?_
          obtain ⟨y11, qy11, h⟩ := jb_some h
          refine J_topi (Option.some.inj qy11) ?_
          refine J_istore_n d_JI_numberOfTrailingZeros_61 (by decide) ?_
          refine J_iload_n d_JI_numberOfTrailingZeros_62 rfl ?_
          refine J_iconst (v := (4 : Int32)) d_JI_numberOfTrailingZeros_63 (by decide) ?_
          refine J_icmp_le (tgt := 74) d_JI_numberOfTrailingZeros_64 (by decide) (fun c => ?_) (fun c => ?_)
          · have h := j_ifp c h
            refine J_iload_n d_JI_numberOfTrailingZeros_74 rfl ?_
            refine J_iload_n d_JI_numberOfTrailingZeros_75 rfl ?_
            refine J_iconst (v := (1 : Int32)) d_JI_numberOfTrailingZeros_76 (by decide) ?_
            refine J_iushr d_JI_numberOfTrailingZeros_77 ?_
            refine J_iadd d_JI_numberOfTrailingZeros_78 ?_
            exact J_iret d_JI_numberOfTrailingZeros_79 rfl rfl (by cases h; exact ⟨rfl, rfl⟩)
          · have h := j_ifn c h
            refine J_iinc (v := ((((1 : Int32) + (16 : Int32)) + (4 : Int32)) + (2 : Int32))) d_JI_numberOfTrailingZeros_67 rfl (by first | rfl | decide) (by decide) ?_
            refine J_iload_n d_JI_numberOfTrailingZeros_70 rfl ?_
            refine J_iconst (v := (2 : Int32)) d_JI_numberOfTrailingZeros_71 (by decide) ?_
            refine J_iushr d_JI_numberOfTrailingZeros_72 ?_
            obtain ⟨y12, qy12, h⟩ := jb_some h
            refine J_topi (Option.some.inj qy12) ?_
            refine J_istore_n d_JI_numberOfTrailingZeros_73 (by decide) ?_
            refine J_iload_n d_JI_numberOfTrailingZeros_74 rfl ?_
            refine J_iload_n d_JI_numberOfTrailingZeros_75 rfl ?_
            refine J_iconst (v := (1 : Int32)) d_JI_numberOfTrailingZeros_76 (by decide) ?_
            refine J_iushr d_JI_numberOfTrailingZeros_77 ?_
            refine J_iadd d_JI_numberOfTrailingZeros_78 ?_
            exact J_iret d_JI_numberOfTrailingZeros_79 rfl rfl (by cases h; exact ⟨rfl, rfl⟩)
      · have h := j_ifn c h
        refine J_iinc (v := (((1 : Int32) + (16 : Int32)) + (8 : Int32))) d_JI_numberOfTrailingZeros_41 rfl (by first | rfl | decide) (by decide) ?_
        refine J_iload_n d_JI_numberOfTrailingZeros_44 rfl ?_
        refine J_bipush (v := (8 : Int32)) d_JI_numberOfTrailingZeros_45 (by decide) ?_
        refine J_iushr d_JI_numberOfTrailingZeros_47 ?_
        obtain ⟨y13, qy13, h⟩ := jb_some h
        refine J_topi (Option.some.inj qy13) ?_
        refine J_istore_n d_JI_numberOfTrailingZeros_48 (by decide) ?_
        refine J_iload_n d_JI_numberOfTrailingZeros_49 rfl ?_
        refine J_bipush (v := (16 : Int32)) d_JI_numberOfTrailingZeros_50 (by decide) ?_
        refine J_icmp_le (tgt := 62) d_JI_numberOfTrailingZeros_52 (by decide) (fun c => ?_) (fun c => ?_)
        · have h := j_ifp c h
          refine J_iload_n d_JI_numberOfTrailingZeros_62 rfl ?_
          refine J_iconst (v := (4 : Int32)) d_JI_numberOfTrailingZeros_63 (by decide) ?_
          refine J_icmp_le (tgt := 74) d_JI_numberOfTrailingZeros_64 (by decide) (fun c => ?_) (fun c => ?_)
          · have h := j_ifp c h
            refine J_iload_n d_JI_numberOfTrailingZeros_74 rfl ?_
            refine J_iload_n d_JI_numberOfTrailingZeros_75 rfl ?_
            refine J_iconst (v := (1 : Int32)) d_JI_numberOfTrailingZeros_76 (by decide) ?_
            refine J_iushr d_JI_numberOfTrailingZeros_77 ?_
            refine J_iadd d_JI_numberOfTrailingZeros_78 ?_
            exact J_iret d_JI_numberOfTrailingZeros_79 rfl rfl (by cases h; exact ⟨rfl, rfl⟩)
          · have h := j_ifn c h
            refine J_iinc (v := ((((1 : Int32) + (16 : Int32)) + (8 : Int32)) + (2 : Int32))) d_JI_numberOfTrailingZeros_67 rfl (by first | rfl | decide) (by decide) ?_
            refine J_iload_n d_JI_numberOfTrailingZeros_70 rfl ?_
            refine J_iconst (v := (2 : Int32)) d_JI_numberOfTrailingZeros_71 (by decide) ?_
            refine J_iushr d_JI_numberOfTrailingZeros_72 ?_
            obtain ⟨y14, qy14, h⟩ := jb_some h
            refine J_topi (Option.some.inj qy14) ?_
            refine J_istore_n d_JI_numberOfTrailingZeros_73 (by decide) ?_
            refine J_iload_n d_JI_numberOfTrailingZeros_74 rfl ?_
            refine J_iload_n d_JI_numberOfTrailingZeros_75 rfl ?_
            refine J_iconst (v := (1 : Int32)) d_JI_numberOfTrailingZeros_76 (by decide) ?_
            refine J_iushr d_JI_numberOfTrailingZeros_77 ?_
            refine J_iadd d_JI_numberOfTrailingZeros_78 ?_
            exact J_iret d_JI_numberOfTrailingZeros_79 rfl rfl (by cases h; exact ⟨rfl, rfl⟩)
        · have h := j_ifn c h
          refine J_iinc (v := ((((1 : Int32) + (16 : Int32)) + (8 : Int32)) + (4 : Int32))) d_JI_numberOfTrailingZeros_55 rfl (by first | rfl | decide) (by decide) ?_
          refine J_iload_n d_JI_numberOfTrailingZeros_58 rfl ?_
          refine J_iconst (v := (4 : Int32)) d_JI_numberOfTrailingZeros_59 (by decide) ?_
          refine J_iushr d_JI_numberOfTrailingZeros_60 ?_
          obtain ⟨y15, qy15, h⟩ := jb_some h
          refine J_topi (Option.some.inj qy15) ?_
          refine J_istore_n d_JI_numberOfTrailingZeros_61 (by decide) ?_
          refine J_iload_n d_JI_numberOfTrailingZeros_62 rfl ?_
          refine J_iconst (v := (4 : Int32)) d_JI_numberOfTrailingZeros_63 (by decide) ?_
          refine J_icmp_le (tgt := 74) d_JI_numberOfTrailingZeros_64 (by decide) (fun c => ?_) (fun c => ?_)
          · have h := j_ifp c h
            refine J_iload_n d_JI_numberOfTrailingZeros_74 rfl ?_
            refine J_iload_n d_JI_numberOfTrailingZeros_75 rfl ?_
            refine J_iconst (v := (1 : Int32)) d_JI_numberOfTrailingZeros_76 (by decide) ?_
            refine J_iushr d_JI_numberOfTrailingZeros_77 ?_
            refine J_iadd d_JI_numberOfTrailingZeros_78 ?_
            exact J_iret d_JI_numberOfTrailingZeros_79 rfl rfl (by cases h; exact ⟨rfl, rfl⟩)
          · have h := j_ifn c h
            refine J_iinc (v := (((((1 : Int32) + (16 : Int32)) + (8 : Int32)) + (4 : Int32)) + (2 : Int32))) d_JI_numberOfTrailingZeros_67 rfl (by first | rfl | decide) (by decide) ?_
            refine J_iload_n d_JI_numberOfTrailingZeros_70 rfl ?_
            refine J_iconst (v := (2 : Int32)) d_JI_numberOfTrailingZeros_71 (by decide) ?_
            refine J_iushr d_JI_numberOfTrailingZeros_72 ?_
            obtain ⟨y16, qy16, h⟩ := jb_some h
            refine J_topi (Option.some.inj qy16) ?_
            refine J_istore_n d_JI_numberOfTrailingZeros_73 (by decide) ?_
            refine J_iload_n d_JI_numberOfTrailingZeros_74 rfl ?_
            refine J_iload_n d_JI_numberOfTrailingZeros_75 rfl ?_
            refine J_iconst (v := (1 : Int32)) d_JI_numberOfTrailingZeros_76 (by decide) ?_
            refine J_iushr d_JI_numberOfTrailingZeros_77 ?_
            refine J_iadd d_JI_numberOfTrailingZeros_78 ?_
            exact J_iret d_JI_numberOfTrailingZeros_79 rfl rfl (by cases h; exact ⟨rfl, rfl⟩)
  · have h := j_ifn c h
    refine J_iload_n d_JI_numberOfTrailingZeros_12 rfl ?_
    refine J_bipush (v := (32 : Int32)) d_JI_numberOfTrailingZeros_13 (by decide) ?_
    refine J_iand d_JI_numberOfTrailingZeros_15 ?_
    exact J_iret d_JI_numberOfTrailingZeros_16 rfl rfl (by cases h; exact ⟨rfl, rfl⟩)
abbrev rm_XA_rightOf : Room := { frames := 0, cells := 0, slots := 0, locals := 0 }
abbrev K_XA_rightOf (l : Launch) := JW l vwCl NsG TsG "ClassifySort$Axioms" prog_2_method_6_code 2 (some .int) rm_XA_rightOf
def m_XA_rightOf (s : jS) (a : jB) (p0 : Int32) : Option (Int32) := jb (if p0 < (0 : Int32) then some (20 : Int32) else (if (s 4) ≤ p0 then some (20 : Int32) else jg (jin p0 40) (some ((a 3) (p0).toNatClampNeg)))) (fun b1 => some (b1))
set_option maxRecDepth 100000 in
set_option maxHeartbeats 4000000 in
theorem c_XA_rightOf (l : Launch) (s : jS) (a : jB) (p0 : Int32) (r : Int32) (h : m_XA_rightOf s a p0 = some r) : JMet l vwCl NsG (.code y_XA_rightOf prog_2_method_6_code 2 (some .int) :: TsG) y_XA_rightOf rm_XA_rightOf [.ref 1, .int p0] (wX s a) (fun v w => v = some (.int r) ∧ w = wX s a) := by
  refine J_enter (by decide +kernel) rfl (Nat.le_of_ble_eq_true rfl) ?_
  unfold m_XA_rightOf at h
  refine J_eq (ls' := [some (.ref 1), some (.int p0)]) rfl rfl rfl rfl ?_
  refine J_iload_n d_XA_rightOf_0 rfl ?_
  obtain ⟨b1, hb1, h⟩ := jb_some h
  have kb1 : K_XA_rightOf l 23 [some (.ref 1), some (.int p0)] [.int b1] (wX s a) (fun v w => v = some (.int r) ∧ w = wX s a) := by
    exact J_iret d_XA_rightOf_23 rfl rfl (by cases h; exact ⟨rfl, rfl⟩)
  clear h
  have h := hb1
  refine J_if_lt (tgt := 21) d_XA_rightOf_1 (by decide) (fun c => ?_) (fun c => ?_)
  · have h := j_ifp c h
    refine J_bipush (v := (20 : Int32)) d_XA_rightOf_21 (by decide) ?_
    cases h
    exact kb1
  · have h := j_ifn c h
    refine J_iload_n d_XA_rightOf_4 rfl ?_
    refine J_aload_n d_XA_rightOf_5 rfl ?_
    refine J_get (j := 2) (v := .int (s 4)) d_XA_rightOf_6 (wX_at1 _ _) rfl in_1 (by decide) ts_39 rfl ?_
    refine J_icmp_ge (tgt := 21) d_XA_rightOf_9 (by decide) (fun c => ?_) (fun c => ?_)
    · have h := j_ifp c h
      refine J_bipush (v := (20 : Int32)) d_XA_rightOf_21 (by decide) ?_
      cases h
      exact kb1
    · have h := j_ifn c h
      refine J_aload_n d_XA_rightOf_12 rfl ?_
      refine J_get (j := 1) (v := .ref 3) d_XA_rightOf_13 (wX_at1 _ _) rfl in_1 (by decide) ts_50 rfl ?_
      refine J_iload_n d_XA_rightOf_16 rfl ?_
      obtain ⟨g, h⟩ := jg_some h
      refine J_iald (f := (a 3)) d_XA_rightOf_17 (wX_at3 _ _) (jin_in g) ?_
      refine J_goto (tgt := 23) d_XA_rightOf_18 (by decide) ?_
      cases h
      exact kb1
abbrev rm_X_tellAxioms : Room := { frames := 4, cells := 0, slots := 0, locals := 86 }
abbrev K_X_tellAxioms (l : Launch) := JW l vwCl NsG TsG "ClassifySort" prog_1_method_22_code 3 none rm_X_tellAxioms
def L_X_tellAxioms_2 (k50 : jS → jB → Option (jS × jB)) : Nat → jS → jB → Int32 → Option (jS × jB)
  | 0, _, _, _ => none
  | f + 1, s, a, x1 => (if (40 : Int32) ≤ x1 then k50 (s) (a) else jb (m_XA_leftOf s a x1) (fun v2 => jb (m_JI_bitCount v2) (fun v4 => (if v4 = (1 : Int32) then jb (m_JI_numberOfTrailingZeros v2) (fun v6 => jb (m_XA_rightOf s a x1) (fun v8 => jb2 (m_XK_tellYes s a v6 v8) (fun s10 a11 => L_X_tellAxioms_2 k50 f (s10) (a11) ((x1 + (1 : Int32)))))) else L_X_tellAxioms_2 k50 f (s) (a) ((x1 + (1 : Int32)))))))
set_option maxRecDepth 100000 in
set_option maxHeartbeats 4000000 in
theorem JL_X_tellAxioms_2 (l : Launch) (k50 : jS → jB → Option (jS × jB)) (r : jS × jB) (hk50 : ∀ (s : jS) (a : jB) (o1 : Option Value) (o2 : Option Value), k50 s a = some r → K_X_tellAxioms l 50 [some (.ref 0), o1, o2] [] (wX s a) (fun v w => v = none ∧ w = wX r.1 r.2)) : ∀ (f : Nat), ∀ (s : jS) (a : jB) (x1 : Int32) (o2 : Option Value), L_X_tellAxioms_2 k50 f s a x1 = some r → K_X_tellAxioms l 2 [some (.ref 0), some (.int x1), o2] [] (wX s a) (fun v w => v = none ∧ w = wX r.1 r.2) := by
  intro f
  induction f with
  | zero =>
    intro s a x1 o2 h
    cases h
  | succ f ih =>
    intro s a x1 o2 h
    rw [L_X_tellAxioms_2] at h
    refine J_iload_n d_X_tellAxioms_2 rfl ?_
    refine J_bipush (v := (40 : Int32)) d_X_tellAxioms_3 (by decide) ?_
    refine J_icmp_ge (tgt := 50) d_X_tellAxioms_5 (by decide) (fun c => ?_) (fun c => ?_)
    · have h := j_ifp c h
      exact hk50 _ _ _ _ h
    · have h := j_ifn c h
      refine J_aload_n d_X_tellAxioms_8 rfl ?_
      refine J_get (j := 0) (v := .ref 1) d_X_tellAxioms_9 (wX_at0 _ _) rfl in_0 (by decide) ts_38 rfl ?_
      refine J_iload_n d_X_tellAxioms_12 rfl ?_
      obtain ⟨v2, e1, h⟩ := jb_some h
      refine J_cVi1 d_X_tellAxioms_13 (c_XA_leftOf l _ _ _ _ e1) (wX_at1 _ _) rfl ts_56 ts_good rfl rfl ts_41 ts_68 dy_XA_leftOf (by decide) (Nat.le_of_ble_eq_true rfl) ts_58 ts_59 ?_
      refine J_istore_n d_X_tellAxioms_16 (by decide) ?_
      refine J_iload_n d_X_tellAxioms_17 rfl ?_
      obtain ⟨v4, e3, h⟩ := jb_some h
      refine J_cSi1 d_X_tellAxioms_18 (c_JI_bitCount l _ _ _ e3) ts_72 ts_good rfl rfl ts_73 ts_74 dy_JI_bitCount (by decide) (Nat.le_of_ble_eq_true rfl) ts_75 ?_
      refine J_iconst (v := (1 : Int32)) d_X_tellAxioms_21 (by decide) ?_
      refine J_icmp_ne (tgt := 44) d_X_tellAxioms_22 (by decide) (fun c => ?_) (fun c => ?_)
      · have h := j_ifn c h
        refine J_iinc (v := (x1 + (1 : Int32))) d_X_tellAxioms_44 rfl (by first | rfl | decide) (by decide) ?_
        refine J_goto (tgt := 2) d_X_tellAxioms_47 (by decide) ?_
        exact ih _ _ _ _ h
      · have h := j_ifp c h
        refine J_aload_n d_X_tellAxioms_25 rfl ?_
        refine J_get (j := 2) (v := .ref 6) d_X_tellAxioms_26 (wX_at0 _ _) rfl in_0 (by decide) ts_1 rfl ?_
        refine J_iload_n d_X_tellAxioms_29 rfl ?_
        obtain ⟨v6, e5, h⟩ := jb_some h
        refine J_cSi1 d_X_tellAxioms_30 (c_JI_numberOfTrailingZeros l _ _ _ e5) ts_77 ts_good rfl rfl ts_73 ts_78 dy_JI_numberOfTrailingZeros (by decide) (Nat.le_of_ble_eq_true rfl) ts_79 ?_
        refine J_aload_n d_X_tellAxioms_33 rfl ?_
        refine J_get (j := 0) (v := .ref 1) d_X_tellAxioms_34 (wX_at0 _ _) rfl in_0 (by decide) ts_38 rfl ?_
        refine J_iload_n d_X_tellAxioms_37 rfl ?_
        obtain ⟨v8, e7, h⟩ := jb_some h
        refine J_cVi1 d_X_tellAxioms_38 (c_XA_rightOf l _ _ _ _ e7) (wX_at1 _ _) rfl ts_80 ts_good rfl rfl ts_41 ts_81 dy_XA_rightOf (by decide) (Nat.le_of_ble_eq_true rfl) ts_82 ts_83 ?_
        obtain ⟨s10, a11, e9, h⟩ := jb2_some h
        refine J_cVv2 d_X_tellAxioms_41 (c_XK_tellYes l _ _ _ _ _ e9) (wX_at6 _ _) rfl ts_10 ts_good rfl rfl ts_11 ts_84 dy_XK_tellYes (by decide) (Nat.le_of_ble_eq_true rfl) ts_13 ts_14 ?_
        refine J_iinc (v := (x1 + (1 : Int32))) d_X_tellAxioms_44 rfl (by first | rfl | decide) (by decide) ?_
        refine J_goto (tgt := 2) d_X_tellAxioms_47 (by decide) ?_
        exact ih _ _ _ _ h
def m_X_tellAxioms (s : jS) (a : jB) : Option (jS × jB) := L_X_tellAxioms_2 (fun s12 a13 => jb2 (m_XK_close s12 a13) (fun s17 a18 => some (s17, a18))) jF (s) (a) ((0 : Int32))
set_option maxRecDepth 100000 in
set_option maxHeartbeats 4000000 in
theorem c_X_tellAxioms (l : Launch) (s : jS) (a : jB) (r : jS × jB) (h : m_X_tellAxioms s a = some r) : JMet l vwCl NsG (.code y_X_tellAxioms prog_1_method_22_code 3 none :: TsG) y_X_tellAxioms rm_X_tellAxioms [.ref 0] (wX s a) (fun v w => v = none ∧ w = wX r.1 r.2) := by
  refine J_enter (by decide +kernel) rfl (Nat.le_of_ble_eq_true rfl) ?_
  unfold m_X_tellAxioms at h
  refine J_eq (ls' := [some (.ref 0), none, none]) rfl rfl rfl rfl ?_
  refine J_iconst (v := (0 : Int32)) d_X_tellAxioms_0 (by decide) ?_
  refine J_istore_n d_X_tellAxioms_1 (by decide) ?_
  refine JL_X_tellAxioms_2 l _ r (fun s12 a13 o14 o15 h => ?_) jF _ _ _ _ h
  refine J_aload_n d_X_tellAxioms_50 rfl ?_
  refine J_get (j := 2) (v := .ref 6) d_X_tellAxioms_51 (wX_at0 _ _) rfl in_0 (by decide) ts_1 rfl ?_
  obtain ⟨s17, a18, e16, h⟩ := jb2_some h
  refine J_cVv0 d_X_tellAxioms_54 (c_XK_close l _ _ _ e16) (wX_at6 _ _) rfl ts_20 ts_good rfl rfl ts_11 ts_85 dy_XK_close (by decide) (Nat.le_of_ble_eq_true rfl) ts_22 ts_23 ?_
  exact J_vret d_X_tellAxioms_57 rfl (by cases h; exact ⟨rfl, rfl⟩)
abbrev rm_X_axiom : Room := { frames := 5, cells := 0, slots := 0, locals := 108 }
abbrev K_X_axiom (l : Launch) := JW l vwCl NsG TsG "ClassifySort" prog_1_method_4_code 6 (some .int) rm_X_axiom
def m_X_axiom (s : jS) (a : jB) (p0 : Int32) (p1 : Int32) (p2 : Int32) : Option (Int32 × jS × jB) := jb (if p1 = (-1 : Int32) then some (1 : Int32) else some (0 : Int32)) (fun b1 => jb (m_X_isClass s a p0) (fun v3 => (if v3 = (0 : Int32) then some ((-1 : Int32), s, a) else (if b1 = (0 : Int32) then jb (m_X_isClass s a p1) (fun v30 => (if v30 = (0 : Int32) then some ((-1 : Int32), s, a) else jb (m_X_isGoal s a p2) (fun v32 => (if v32 = (0 : Int32) then some ((-1 : Int32), s, a) else (if p1 = p0 then some ((-2 : Int32), s, a) else jb (m_XA_isFull s a) (fun v34 => (if v34 = (0 : Int32) then jb (if b1 = (0 : Int32) then jb (m_X_bit p0) (fun v51 => jb (m_X_bit p1) (fun v53 => some (v51 ||| v53))) else jb (m_X_bit p0) (fun v55 => some v55)) (fun b35 => jb (m_X_slot p2) (fun v37 => jb3 (m_XA_add s a b35 v37) (fun v41 s39 a40 => jb (m_XA_touchedBy s39 a40 v41) (fun v43 => jb2 (m_XK_forgetNo s39 a40 v43) (fun s45 a46 => jb2 (m_X_tellAxioms s45 a46) (fun s48 a49 => some (v41, (upd s48 3 (0 : Int32)), a49))))))) else some ((-4 : Int32), s, a)))))))) else jb (m_X_isGoal s a p2) (fun v5 => (if v5 = (0 : Int32) then some ((-1 : Int32), s, a) else (if p1 = p0 then some ((-2 : Int32), s, a) else jb (m_XA_isFull s a) (fun v7 => (if v7 = (0 : Int32) then jb (if b1 = (0 : Int32) then jb (m_X_bit p0) (fun v24 => jb (m_X_bit p1) (fun v26 => some (v24 ||| v26))) else jb (m_X_bit p0) (fun v28 => some v28)) (fun b8 => jb (m_X_slot p2) (fun v10 => jb3 (m_XA_add s a b8 v10) (fun v14 s12 a13 => jb (m_XA_touchedBy s12 a13 v14) (fun v16 => jb2 (m_XK_forgetNo s12 a13 v16) (fun s18 a19 => jb2 (m_X_tellAxioms s18 a19) (fun s21 a22 => some (v14, (upd s21 3 (0 : Int32)), a22))))))) else some ((-4 : Int32), s, a))))))))))
set_option maxRecDepth 100000 in
set_option maxHeartbeats 4000000 in
theorem c_X_axiom (l : Launch) (s : jS) (a : jB) (p0 : Int32) (p1 : Int32) (p2 : Int32) (r : Int32 × jS × jB) (h : m_X_axiom s a p0 p1 p2 = some r) : JMet l vwCl NsG (.code y_X_axiom prog_1_method_4_code 6 (some .int) :: TsG) y_X_axiom rm_X_axiom [.ref 0, .int p0, .int p1, .int p2] (wX s a) (fun v w => v = some (.int r.1) ∧ w = wX r.2.1 r.2.2) := by
  refine J_enter (by decide +kernel) rfl (Nat.le_of_ble_eq_true rfl) ?_
  unfold m_X_axiom at h
  refine J_eq (ls' := [some (.ref 0), some (.int p0), some (.int p1), some (.int p2), none, none]) rfl rfl rfl rfl ?_
  refine J_iload_n d_X_axiom_0 rfl ?_
  refine J_iconst (v := (-1 : Int32)) d_X_axiom_1 (by decide) ?_
  obtain ⟨b1, hb1, h⟩ := jb_some h
  have kb1 : K_X_axiom l 10 [some (.ref 0), some (.int p0), some (.int p1), some (.int p2), none, none] [.int b1] (wX s a) (fun v w => v = some (.int r.1) ∧ w = wX r.2.1 r.2.2) := by
    refine J_istore d_X_axiom_10 (by decide) ?_
    refine J_aload_n d_X_axiom_12 rfl ?_
    refine J_iload_n d_X_axiom_13 rfl ?_
    obtain ⟨v3, e2, h⟩ := jb_some h
    refine J_cVi1 d_X_axiom_14 (c_X_isClass l _ _ _ _ e2) (wX_at0 _ _) rfl ts_30 ts_good rfl rfl ts_4 ts_31 dy_X_isClass (by decide) (Nat.le_of_ble_eq_true rfl) ts_32 ts_33 ?_
    refine J_if_eq (tgt := 41) d_X_axiom_17 (by decide) (fun c => ?_) (fun c => ?_)
    · have h := j_ifp c h
      refine J_iconst (v := (-1 : Int32)) d_X_axiom_41 (by decide) ?_
      exact J_iret d_X_axiom_42 rfl rfl (by cases h; exact ⟨rfl, rfl⟩)
    · have h := j_ifn c h
      refine J_iload d_X_axiom_20 rfl ?_
      refine J_if_ne (tgt := 33) d_X_axiom_22 (by decide) (fun c => ?_) (fun c => ?_)
      · have h := j_ifn c h
        refine J_aload_n d_X_axiom_33 rfl ?_
        refine J_iload_n d_X_axiom_34 rfl ?_
        obtain ⟨v5, e4, h⟩ := jb_some h
        refine J_cVi1 d_X_axiom_35 (c_X_isGoal l _ _ _ _ e4) (wX_at0 _ _) rfl ts_34 ts_good rfl rfl ts_4 ts_35 dy_X_isGoal (by decide) (Nat.le_of_ble_eq_true rfl) ts_36 ts_37 ?_
        refine J_if_ne (tgt := 43) d_X_axiom_38 (by decide) (fun c => ?_) (fun c => ?_)
        · have h := j_ifn c h
          refine J_iload_n d_X_axiom_43 rfl ?_
          refine J_iload_n d_X_axiom_44 rfl ?_
          refine J_icmp_ne (tgt := 51) d_X_axiom_45 (by decide) (fun c => ?_) (fun c => ?_)
          · have h := j_ifn c h
            refine J_aload_n d_X_axiom_51 rfl ?_
            refine J_get (j := 0) (v := .ref 1) d_X_axiom_52 (wX_at0 _ _) rfl in_0 (by decide) ts_38 rfl ?_
            obtain ⟨v7, e6, h⟩ := jb_some h
            refine J_cVi0 d_X_axiom_55 (c_XA_isFull l _ _ _ e6) (wX_at1 _ _) rfl ts_40 ts_good rfl rfl ts_41 ts_42 dy_XA_isFull (by decide) (Nat.le_of_ble_eq_true rfl) ts_43 ts_44 ?_
            refine J_if_eq (tgt := 64) d_X_axiom_58 (by decide) (fun c => ?_) (fun c => ?_)
            · have h := j_ifp c h
              refine J_aload_n d_X_axiom_64 rfl ?_
              refine J_get (j := 0) (v := .ref 1) d_X_axiom_65 (wX_at0 _ _) rfl in_0 (by decide) ts_38 rfl ?_
              refine J_iload d_X_axiom_68 rfl ?_
              obtain ⟨b8, hb8, h⟩ := jb_some h
              have kb8 : K_X_axiom l 89 [some (.ref 0), some (.int p0), some (.int p1), some (.int p2), some (.int b1), none] [.int b8, .ref 1] (wX s a) (fun v w => v = some (.int r.1) ∧ w = wX r.2.1 r.2.2) := by
                refine J_iload_n d_X_axiom_89 rfl ?_
                obtain ⟨v10, e9, h⟩ := jb_some h
                refine J_cSi1 d_X_axiom_90 (c_X_slot l _ _ _ e9) ts_45 ts_good rfl rfl ts_4 ts_46 dy_X_slot (by decide) (Nat.le_of_ble_eq_true rfl) ts_47 ?_
                obtain ⟨v14, s12, a13, e11, h⟩ := jb3_some h
                refine J_cVi2 d_X_axiom_93 (c_XA_add l _ _ _ _ _ e11) (wX_at1 _ _) rfl ts_52 ts_good rfl rfl ts_41 ts_53 dy_XA_add (by decide) (Nat.le_of_ble_eq_true rfl) ts_54 ts_55 ?_
                refine J_istore d_X_axiom_96 (by decide) ?_
                refine J_aload_n d_X_axiom_98 rfl ?_
                refine J_get (j := 2) (v := .ref 6) d_X_axiom_99 (wX_at0 _ _) rfl in_0 (by decide) ts_1 rfl ?_
                refine J_aload_n d_X_axiom_102 rfl ?_
                refine J_get (j := 0) (v := .ref 1) d_X_axiom_103 (wX_at0 _ _) rfl in_0 (by decide) ts_38 rfl ?_
                refine J_iload d_X_axiom_106 rfl ?_
                obtain ⟨v16, e15, h⟩ := jb_some h
                refine J_cVi1 d_X_axiom_108 (c_XA_touchedBy l _ _ _ _ e15) (wX_at1 _ _) rfl ts_60 ts_good rfl rfl ts_41 ts_61 dy_XA_touchedBy (by decide) (Nat.le_of_ble_eq_true rfl) ts_62 ts_63 ?_
                obtain ⟨s18, a19, e17, h⟩ := jb2_some h
                refine J_cVv1 d_X_axiom_111 (c_XK_forgetNo l _ _ _ _ e17) (wX_at6 _ _) rfl ts_64 ts_good rfl rfl ts_11 ts_65 dy_XK_forgetNo (by decide) (Nat.le_of_ble_eq_true rfl) ts_66 ts_67 ?_
                refine J_aload_n d_X_axiom_114 rfl ?_
                obtain ⟨s21, a22, e20, h⟩ := jb2_some h
                refine J_cVv0 d_X_axiom_115 (c_X_tellAxioms l _ _ _ e20) (wX_at0 _ _) rfl ts_86 ts_good rfl rfl ts_4 ts_87 dy_X_tellAxioms (by decide) (Nat.le_of_ble_eq_true rfl) ts_88 ts_89 ?_
                refine J_aload_n d_X_axiom_118 rfl ?_
                refine J_iconst (v := (0 : Int32)) d_X_axiom_119 (by decide) ?_
                refine J_put (j := 8) d_X_axiom_120 (wX_at0 _ _) rfl in_0 ty_X tyok_X nok_X (by decide) ts_28 rfl (tyok_X 8 (by decide)) (by decide) (by decide) (Nat.le_of_ble_eq_true rfl) ?_
                refine J_eq rfl rfl rfl (wX_put3 _ _ _) ?_
                refine J_iload d_X_axiom_123 rfl ?_
                exact J_iret d_X_axiom_125 rfl rfl (by cases h; exact ⟨rfl, rfl⟩)
              clear h
              have h := hb8
              refine J_if_eq (tgt := 80) d_X_axiom_70 (by decide) (fun c => ?_) (fun c => ?_)
              · have h := j_ifp c h
                refine J_iload_n d_X_axiom_80 rfl ?_
                obtain ⟨v24, e23, h⟩ := jb_some h
                refine J_cSi1 d_X_axiom_81 (c_X_bit l _ _ _ e23) ts_3 ts_good rfl rfl ts_4 ts_7 dy_X_bit (by decide) (Nat.le_of_ble_eq_true rfl) ts_5 ?_
                refine J_iload_n d_X_axiom_84 rfl ?_
                obtain ⟨v26, e25, h⟩ := jb_some h
                refine J_cSi1 d_X_axiom_85 (c_X_bit l _ _ _ e25) ts_3 ts_good rfl rfl ts_4 ts_7 dy_X_bit (by decide) (Nat.le_of_ble_eq_true rfl) ts_5 ?_
                refine J_ior d_X_axiom_88 ?_
                cases h
                exact kb8
              · have h := j_ifn c h
                refine J_iload_n d_X_axiom_73 rfl ?_
                obtain ⟨v28, e27, h⟩ := jb_some h
                refine J_cSi1 d_X_axiom_74 (c_X_bit l _ _ _ e27) ts_3 ts_good rfl rfl ts_4 ts_7 dy_X_bit (by decide) (Nat.le_of_ble_eq_true rfl) ts_5 ?_
                refine J_goto (tgt := 89) d_X_axiom_77 (by decide) ?_
                cases h
                exact kb8
            · have h := j_ifn c h
              refine J_bipush (v := (-4 : Int32)) d_X_axiom_61 (by decide) ?_
              exact J_iret d_X_axiom_63 rfl rfl (by cases h; exact ⟨rfl, rfl⟩)
          · have h := j_ifp c h
            refine J_bipush (v := (-2 : Int32)) d_X_axiom_48 (by decide) ?_
            exact J_iret d_X_axiom_50 rfl rfl (by cases h; exact ⟨rfl, rfl⟩)
        · have h := j_ifp c h
          refine J_iconst (v := (-1 : Int32)) d_X_axiom_41 (by decide) ?_
          exact J_iret d_X_axiom_42 rfl rfl (by cases h; exact ⟨rfl, rfl⟩)
      · have h := j_ifp c h
        refine J_aload_n d_X_axiom_25 rfl ?_
        refine J_iload_n d_X_axiom_26 rfl ?_
        obtain ⟨v30, e29, h⟩ := jb_some h
        refine J_cVi1 d_X_axiom_27 (c_X_isClass l _ _ _ _ e29) (wX_at0 _ _) rfl ts_30 ts_good rfl rfl ts_4 ts_31 dy_X_isClass (by decide) (Nat.le_of_ble_eq_true rfl) ts_32 ts_33 ?_
        refine J_if_eq (tgt := 41) d_X_axiom_30 (by decide) (fun c => ?_) (fun c => ?_)
        · have h := j_ifp c h
          refine J_iconst (v := (-1 : Int32)) d_X_axiom_41 (by decide) ?_
          exact J_iret d_X_axiom_42 rfl rfl (by cases h; exact ⟨rfl, rfl⟩)
        · have h := j_ifn c h
          refine J_aload_n d_X_axiom_33 rfl ?_
          refine J_iload_n d_X_axiom_34 rfl ?_
          obtain ⟨v32, e31, h⟩ := jb_some h
          refine J_cVi1 d_X_axiom_35 (c_X_isGoal l _ _ _ _ e31) (wX_at0 _ _) rfl ts_34 ts_good rfl rfl ts_4 ts_35 dy_X_isGoal (by decide) (Nat.le_of_ble_eq_true rfl) ts_36 ts_37 ?_
          refine J_if_ne (tgt := 43) d_X_axiom_38 (by decide) (fun c => ?_) (fun c => ?_)
          · have h := j_ifn c h
            refine J_iload_n d_X_axiom_43 rfl ?_
            refine J_iload_n d_X_axiom_44 rfl ?_
            refine J_icmp_ne (tgt := 51) d_X_axiom_45 (by decide) (fun c => ?_) (fun c => ?_)
            · have h := j_ifn c h
              refine J_aload_n d_X_axiom_51 rfl ?_
              refine J_get (j := 0) (v := .ref 1) d_X_axiom_52 (wX_at0 _ _) rfl in_0 (by decide) ts_38 rfl ?_
              obtain ⟨v34, e33, h⟩ := jb_some h
              refine J_cVi0 d_X_axiom_55 (c_XA_isFull l _ _ _ e33) (wX_at1 _ _) rfl ts_40 ts_good rfl rfl ts_41 ts_42 dy_XA_isFull (by decide) (Nat.le_of_ble_eq_true rfl) ts_43 ts_44 ?_
              refine J_if_eq (tgt := 64) d_X_axiom_58 (by decide) (fun c => ?_) (fun c => ?_)
              · have h := j_ifp c h
                refine J_aload_n d_X_axiom_64 rfl ?_
                refine J_get (j := 0) (v := .ref 1) d_X_axiom_65 (wX_at0 _ _) rfl in_0 (by decide) ts_38 rfl ?_
                refine J_iload d_X_axiom_68 rfl ?_
                obtain ⟨b35, hb35, h⟩ := jb_some h
                have kb35 : K_X_axiom l 89 [some (.ref 0), some (.int p0), some (.int p1), some (.int p2), some (.int b1), none] [.int b35, .ref 1] (wX s a) (fun v w => v = some (.int r.1) ∧ w = wX r.2.1 r.2.2) := by
                  refine J_iload_n d_X_axiom_89 rfl ?_
                  obtain ⟨v37, e36, h⟩ := jb_some h
                  refine J_cSi1 d_X_axiom_90 (c_X_slot l _ _ _ e36) ts_45 ts_good rfl rfl ts_4 ts_46 dy_X_slot (by decide) (Nat.le_of_ble_eq_true rfl) ts_47 ?_
                  obtain ⟨v41, s39, a40, e38, h⟩ := jb3_some h
                  refine J_cVi2 d_X_axiom_93 (c_XA_add l _ _ _ _ _ e38) (wX_at1 _ _) rfl ts_52 ts_good rfl rfl ts_41 ts_53 dy_XA_add (by decide) (Nat.le_of_ble_eq_true rfl) ts_54 ts_55 ?_
                  refine J_istore d_X_axiom_96 (by decide) ?_
                  refine J_aload_n d_X_axiom_98 rfl ?_
                  refine J_get (j := 2) (v := .ref 6) d_X_axiom_99 (wX_at0 _ _) rfl in_0 (by decide) ts_1 rfl ?_
                  refine J_aload_n d_X_axiom_102 rfl ?_
                  refine J_get (j := 0) (v := .ref 1) d_X_axiom_103 (wX_at0 _ _) rfl in_0 (by decide) ts_38 rfl ?_
                  refine J_iload d_X_axiom_106 rfl ?_
                  obtain ⟨v43, e42, h⟩ := jb_some h
                  refine J_cVi1 d_X_axiom_108 (c_XA_touchedBy l _ _ _ _ e42) (wX_at1 _ _) rfl ts_60 ts_good rfl rfl ts_41 ts_61 dy_XA_touchedBy (by decide) (Nat.le_of_ble_eq_true rfl) ts_62 ts_63 ?_
                  obtain ⟨s45, a46, e44, h⟩ := jb2_some h
                  refine J_cVv1 d_X_axiom_111 (c_XK_forgetNo l _ _ _ _ e44) (wX_at6 _ _) rfl ts_64 ts_good rfl rfl ts_11 ts_65 dy_XK_forgetNo (by decide) (Nat.le_of_ble_eq_true rfl) ts_66 ts_67 ?_
                  refine J_aload_n d_X_axiom_114 rfl ?_
                  obtain ⟨s48, a49, e47, h⟩ := jb2_some h
                  refine J_cVv0 d_X_axiom_115 (c_X_tellAxioms l _ _ _ e47) (wX_at0 _ _) rfl ts_86 ts_good rfl rfl ts_4 ts_87 dy_X_tellAxioms (by decide) (Nat.le_of_ble_eq_true rfl) ts_88 ts_89 ?_
                  refine J_aload_n d_X_axiom_118 rfl ?_
                  refine J_iconst (v := (0 : Int32)) d_X_axiom_119 (by decide) ?_
                  refine J_put (j := 8) d_X_axiom_120 (wX_at0 _ _) rfl in_0 ty_X tyok_X nok_X (by decide) ts_28 rfl (tyok_X 8 (by decide)) (by decide) (by decide) (Nat.le_of_ble_eq_true rfl) ?_
                  refine J_eq rfl rfl rfl (wX_put3 _ _ _) ?_
                  refine J_iload d_X_axiom_123 rfl ?_
                  exact J_iret d_X_axiom_125 rfl rfl (by cases h; exact ⟨rfl, rfl⟩)
                clear h
                have h := hb35
                refine J_if_eq (tgt := 80) d_X_axiom_70 (by decide) (fun c => ?_) (fun c => ?_)
                · have h := j_ifp c h
                  refine J_iload_n d_X_axiom_80 rfl ?_
                  obtain ⟨v51, e50, h⟩ := jb_some h
                  refine J_cSi1 d_X_axiom_81 (c_X_bit l _ _ _ e50) ts_3 ts_good rfl rfl ts_4 ts_7 dy_X_bit (by decide) (Nat.le_of_ble_eq_true rfl) ts_5 ?_
                  refine J_iload_n d_X_axiom_84 rfl ?_
                  obtain ⟨v53, e52, h⟩ := jb_some h
                  refine J_cSi1 d_X_axiom_85 (c_X_bit l _ _ _ e52) ts_3 ts_good rfl rfl ts_4 ts_7 dy_X_bit (by decide) (Nat.le_of_ble_eq_true rfl) ts_5 ?_
                  refine J_ior d_X_axiom_88 ?_
                  cases h
                  exact kb35
                · have h := j_ifn c h
                  refine J_iload_n d_X_axiom_73 rfl ?_
                  obtain ⟨v55, e54, h⟩ := jb_some h
                  refine J_cSi1 d_X_axiom_74 (c_X_bit l _ _ _ e54) ts_3 ts_good rfl rfl ts_4 ts_7 dy_X_bit (by decide) (Nat.le_of_ble_eq_true rfl) ts_5 ?_
                  refine J_goto (tgt := 89) d_X_axiom_77 (by decide) ?_
                  cases h
                  exact kb35
              · have h := j_ifn c h
                refine J_bipush (v := (-4 : Int32)) d_X_axiom_61 (by decide) ?_
                exact J_iret d_X_axiom_63 rfl rfl (by cases h; exact ⟨rfl, rfl⟩)
            · have h := j_ifp c h
              refine J_bipush (v := (-2 : Int32)) d_X_axiom_48 (by decide) ?_
              exact J_iret d_X_axiom_50 rfl rfl (by cases h; exact ⟨rfl, rfl⟩)
          · have h := j_ifp c h
            refine J_iconst (v := (-1 : Int32)) d_X_axiom_41 (by decide) ?_
            exact J_iret d_X_axiom_42 rfl rfl (by cases h; exact ⟨rfl, rfl⟩)
  clear h
  have h := hb1
  refine J_icmp_ne (tgt := 9) d_X_axiom_2 (by decide) (fun c => ?_) (fun c => ?_)
  · have h := j_ifn c h
    refine J_iconst (v := (0 : Int32)) d_X_axiom_9 (by decide) ?_
    cases h
    exact kb1
  · have h := j_ifp c h
    refine J_iconst (v := (1 : Int32)) d_X_axiom_5 (by decide) ?_
    refine J_goto (tgt := 10) d_X_axiom_6 (by decide) ?_
    cases h
    exact kb1
abbrev rm_XA_isThere : Room := { frames := 1, cells := 0, slots := 0, locals := 21 }
abbrev K_XA_isThere (l : Launch) := JW l vwCl NsG TsG "ClassifySort$Axioms" prog_2_method_3_code 2 (some .boolean) rm_XA_isThere
def m_XA_isThere (s : jS) (a : jB) (p0 : Int32) : Option (Int32) := jb (m_XA_leftOf s a p0) (fun v2 => jb (if v2 = (0 : Int32) then some (0 : Int32) else some (1 : Int32)) (fun b3 => jg (jz b3) (some (b3))))
set_option maxRecDepth 100000 in
set_option maxHeartbeats 4000000 in
theorem c_XA_isThere (l : Launch) (s : jS) (a : jB) (p0 : Int32) (r : Int32) (h : m_XA_isThere s a p0 = some r) : JMet l vwCl NsG (.code y_XA_isThere prog_2_method_3_code 2 (some .boolean) :: TsG) y_XA_isThere rm_XA_isThere [.ref 1, .int p0] (wX s a) (fun v w => v = some (.int r) ∧ w = wX s a) := by
  refine J_enter (by decide +kernel) rfl (Nat.le_of_ble_eq_true rfl) ?_
  unfold m_XA_isThere at h
  refine J_eq (ls' := [some (.ref 1), some (.int p0)]) rfl rfl rfl rfl ?_
  refine J_aload_n d_XA_isThere_0 rfl ?_
  refine J_iload_n d_XA_isThere_1 rfl ?_
  obtain ⟨v2, e1, h⟩ := jb_some h
  refine J_cVi1 d_XA_isThere_2 (c_XA_leftOf l _ _ _ _ e1) (wX_at1 _ _) rfl ts_56 ts_good rfl rfl ts_41 ts_57 dy_XA_leftOf (by decide) (Nat.le_of_ble_eq_true rfl) ts_58 ts_59 ?_
  obtain ⟨b3, hb3, h⟩ := jb_some h
  have kb3 : K_XA_isThere l 13 [some (.ref 1), some (.int p0)] [.int b3] (wX s a) (fun v w => v = some (.int r) ∧ w = wX s a) := by
    obtain ⟨g, h⟩ := jg_some h
    exact J_iret d_XA_isThere_13 rfl (jz_nar g) (by cases h; exact ⟨rfl, rfl⟩)
  clear h
  have h := hb3
  refine J_if_eq (tgt := 12) d_XA_isThere_5 (by decide) (fun c => ?_) (fun c => ?_)
  · have h := j_ifp c h
    refine J_iconst (v := (0 : Int32)) d_XA_isThere_12 (by decide) ?_
    cases h
    exact kb3
  · have h := j_ifn c h
    refine J_iconst (v := (1 : Int32)) d_XA_isThere_8 (by decide) ?_
    refine J_goto (tgt := 13) d_XA_isThere_9 (by decide) ?_
    cases h
    exact kb3
abbrev rm_XK_knownPairs : Room := { frames := 1, cells := 0, slots := 0, locals := 20 }
abbrev K_XK_knownPairs (l : Launch) := JW l vwCl NsG TsG "ClassifySort$Knowledge" prog_3_method_16_code 4 (some .int) rm_XK_knownPairs
def L_XK_knownPairs_4 (s : jS) (a : jB) (c1 : Int32) (k47 : Int32 → Option (Int32)) : Nat → Int32 → Int32 → Option (Int32)
  | 0, _, _ => none
  | f + 1, x2, x3 => (if c1 ≤ x3 then k47 (x2) else (if (20 : Int32) ≤ x3 then k47 (x2) else jg (jin x3 21) (jg (jin x3 21) (jg (jin x3 21) (jb (m_JI_bitCount ((((a 7) (x3).toNatClampNeg) ||| ((a 9) (x3).toNatClampNeg)) ||| ((a 10) (x3).toNatClampNeg))) (fun v2 => L_XK_knownPairs_4 s a c1 k47 f ((x2 + v2)) ((x3 + (1 : Int32)))))))))
set_option maxRecDepth 100000 in
set_option maxHeartbeats 4000000 in
theorem JL_XK_knownPairs_4 (l : Launch) (s : jS) (a : jB) (c1 : Int32) (k47 : Int32 → Option (Int32)) (r : Int32) (hk47 : ∀ (x2 : Int32) (o3 : Option Value), k47 x2 = some r → K_XK_knownPairs l 47 [some (.ref 6), some (.int c1), some (.int x2), o3] [] (wX s a) (fun v w => v = some (.int r) ∧ w = wX s a)) : ∀ (f : Nat), ∀ (x2 : Int32) (x3 : Int32), L_XK_knownPairs_4 s a c1 k47 f x2 x3 = some r → K_XK_knownPairs l 4 [some (.ref 6), some (.int c1), some (.int x2), some (.int x3)] [] (wX s a) (fun v w => v = some (.int r) ∧ w = wX s a) := by
  intro f
  induction f with
  | zero =>
    intro x2 x3 h
    cases h
  | succ f ih =>
    intro x2 x3 h
    rw [L_XK_knownPairs_4] at h
    refine J_iload_n d_XK_knownPairs_4 rfl ?_
    refine J_iload_n d_XK_knownPairs_5 rfl ?_
    refine J_icmp_ge (tgt := 47) d_XK_knownPairs_6 (by decide) (fun c => ?_) (fun c => ?_)
    · have h := j_ifp c h
      exact hk47 _ _ h
    · have h := j_ifn c h
      refine J_iload_n d_XK_knownPairs_9 rfl ?_
      refine J_bipush (v := (20 : Int32)) d_XK_knownPairs_10 (by decide) ?_
      refine J_icmp_ge (tgt := 47) d_XK_knownPairs_12 (by decide) (fun c => ?_) (fun c => ?_)
      · have h := j_ifp c h
        exact hk47 _ _ h
      · have h := j_ifn c h
        refine J_iload_n d_XK_knownPairs_15 rfl ?_
        refine J_aload_n d_XK_knownPairs_16 rfl ?_
        refine J_get (j := 0) (v := .ref 7) d_XK_knownPairs_17 (wX_at6 _ _) rfl in_3 (by decide) ts_2 rfl ?_
        refine J_iload_n d_XK_knownPairs_20 rfl ?_
        obtain ⟨g, h⟩ := jg_some h
        refine J_iald (f := (a 7)) d_XK_knownPairs_21 (wX_at7 _ _) (jin_in g) ?_
        refine J_aload_n d_XK_knownPairs_22 rfl ?_
        refine J_get (j := 2) (v := .ref 9) d_XK_knownPairs_23 (wX_at6 _ _) rfl in_3 (by decide) ts_15 rfl ?_
        refine J_iload_n d_XK_knownPairs_26 rfl ?_
        obtain ⟨g, h⟩ := jg_some h
        refine J_iald (f := (a 9)) d_XK_knownPairs_27 (wX_at9 _ _) (jin_in g) ?_
        refine J_ior d_XK_knownPairs_28 ?_
        refine J_aload_n d_XK_knownPairs_29 rfl ?_
        refine J_get (j := 3) (v := .ref 10) d_XK_knownPairs_30 (wX_at6 _ _) rfl in_3 (by decide) ts_19 rfl ?_
        refine J_iload_n d_XK_knownPairs_33 rfl ?_
        obtain ⟨g, h⟩ := jg_some h
        refine J_iald (f := (a 10)) d_XK_knownPairs_34 (wX_at10 _ _) (jin_in g) ?_
        refine J_ior d_XK_knownPairs_35 ?_
        obtain ⟨v2, e1, h⟩ := jb_some h
        refine J_cSi1 d_XK_knownPairs_36 (c_JI_bitCount l _ _ _ e1) ts_72 ts_good rfl rfl ts_73 ts_94 dy_JI_bitCount (by decide) (Nat.le_of_ble_eq_true rfl) ts_75 ?_
        refine J_iadd d_XK_knownPairs_39 ?_
        refine J_istore_n d_XK_knownPairs_40 (by decide) ?_
        refine J_iinc (v := (x3 + (1 : Int32))) d_XK_knownPairs_41 rfl (by first | rfl | decide) (by decide) ?_
        refine J_goto (tgt := 4) d_XK_knownPairs_44 (by decide) ?_
        exact ih _ _ h
def m_XK_knownPairs (s : jS) (a : jB) (p0 : Int32) : Option (Int32) := L_XK_knownPairs_4 (s) (a) (p0) (fun x3 => some (x3)) jF ((0 : Int32)) ((0 : Int32))
set_option maxRecDepth 100000 in
set_option maxHeartbeats 4000000 in
theorem c_XK_knownPairs (l : Launch) (s : jS) (a : jB) (p0 : Int32) (r : Int32) (h : m_XK_knownPairs s a p0 = some r) : JMet l vwCl NsG (.code y_XK_knownPairs prog_3_method_16_code 4 (some .int) :: TsG) y_XK_knownPairs rm_XK_knownPairs [.ref 6, .int p0] (wX s a) (fun v w => v = some (.int r) ∧ w = wX s a) := by
  refine J_enter (by decide +kernel) rfl (Nat.le_of_ble_eq_true rfl) ?_
  unfold m_XK_knownPairs at h
  refine J_eq (ls' := [some (.ref 6), some (.int p0), none, none]) rfl rfl rfl rfl ?_
  refine J_iconst (v := (0 : Int32)) d_XK_knownPairs_0 (by decide) ?_
  refine J_istore_n d_XK_knownPairs_1 (by decide) ?_
  refine J_iconst (v := (0 : Int32)) d_XK_knownPairs_2 (by decide) ?_
  refine J_istore_n d_XK_knownPairs_3 (by decide) ?_
  refine JL_XK_knownPairs_4 l _ _ _ _ r (fun x3 o4 h => ?_) jF _ _ h
  refine J_iload_n d_XK_knownPairs_47 rfl ?_
  exact J_iret d_XK_knownPairs_48 rfl rfl (by cases h; exact ⟨rfl, rfl⟩)
abbrev rm_XA_drop : Room := { frames := 2, cells := 0, slots := 0, locals := 42 }
abbrev K_XA_drop (l : Launch) := JW l vwCl NsG TsG "ClassifySort$Axioms" prog_2_method_8_code 2 none rm_XA_drop
def m_XA_drop (s : jS) (a : jB) (p0 : Int32) : Option (jS × jB) := jb (m_XA_isThere s a p0) (fun v2 => (if v2 = (0 : Int32) then some (s, a) else jg (jin p0 40) (some ((upd s 5 ((s 5) - (1 : Int32))), (va_up a 2 (upd (a 2) (p0).toNatClampNeg (0 : Int32)))))))
set_option maxRecDepth 100000 in
set_option maxHeartbeats 4000000 in
theorem c_XA_drop (l : Launch) (s : jS) (a : jB) (p0 : Int32) (r : jS × jB) (h : m_XA_drop s a p0 = some r) : JMet l vwCl NsG (.code y_XA_drop prog_2_method_8_code 2 none :: TsG) y_XA_drop rm_XA_drop [.ref 1, .int p0] (wX s a) (fun v w => v = none ∧ w = wX r.1 r.2) := by
  refine J_enter (by decide +kernel) rfl (Nat.le_of_ble_eq_true rfl) ?_
  unfold m_XA_drop at h
  refine J_eq (ls' := [some (.ref 1), some (.int p0)]) rfl rfl rfl rfl ?_
  refine J_aload_n d_XA_drop_0 rfl ?_
  refine J_iload_n d_XA_drop_1 rfl ?_
  obtain ⟨v2, e1, h⟩ := jb_some h
  refine J_cVi1 d_XA_drop_2 (c_XA_isThere l _ _ _ _ e1) (wX_at1 _ _) rfl ts_90 ts_good rfl rfl ts_41 ts_99 dy_XA_isThere (by decide) (Nat.le_of_ble_eq_true rfl) ts_92 ts_93 ?_
  refine J_if_eq (tgt := 25) d_XA_drop_5 (by decide) (fun c => ?_) (fun c => ?_)
  · have h := j_ifp c h
    exact J_vret d_XA_drop_25 rfl (by cases h; exact ⟨rfl, rfl⟩)
  · have h := j_ifn c h
    refine J_aload_n d_XA_drop_8 rfl ?_
    refine J_get (j := 0) (v := .ref 2) d_XA_drop_9 (wX_at1 _ _) rfl in_1 (by decide) ts_49 rfl ?_
    refine J_iload_n d_XA_drop_12 rfl ?_
    refine J_iconst (v := (0 : Int32)) d_XA_drop_13 (by decide) ?_
    obtain ⟨g, h⟩ := jg_some h
    refine J_iast (f := (a 2)) d_XA_drop_14 (wX_at2 _ _) (jin_in g) ?_
    refine J_eq (ws' := wX s (va_up a 2 (upd (a 2) (p0).toNatClampNeg (0 : Int32)))) rfl rfl rfl (wX_ast2 _ _ _) ?_
    refine J_aload_n d_XA_drop_15 rfl ?_
    refine J_dup d_XA_drop_16 rfl ?_
    refine J_get (j := 3) (v := .int (s 5)) d_XA_drop_17 (wX_at1 _ _) rfl in_1 (by decide) ts_51 rfl ?_
    refine J_iconst (v := (1 : Int32)) d_XA_drop_20 (by decide) ?_
    refine J_isub d_XA_drop_21 ?_
    refine J_put (j := 3) d_XA_drop_22 (wX_at1 _ _) rfl in_1 ty_XA tyok_XA nok_XA (by decide) ts_51 rfl (tyok_XA 3 (by decide)) rfl rfl (Nat.le_of_ble_eq_true rfl) ?_
    refine J_eq rfl rfl rfl (wX_put5 _ _ _) ?_
    exact J_vret d_XA_drop_25 rfl (by cases h; exact ⟨rfl, rfl⟩)
abbrev rm_XK_forgetYes : Room := { frames := 2, cells := 0, slots := 0, locals := 41 }
abbrev K_XK_forgetYes (l : Launch) := JW l vwCl NsG TsG "ClassifySort$Knowledge" prog_3_method_14_code 3 none rm_XK_forgetYes
def L_XK_forgetYes_2 (c1 : Int32) (k64 : jS → jB → Option (jS × jB)) : Nat → jS → jB → Int32 → Option (jS × jB)
  | 0, _, _, _ => none
  | f + 1, s, a, x2 => (if (21 : Int32) ≤ x2 then k64 (s) (a) else jg (jin x2 21) (jg (jin x2 21) (jb (m_X_has c1 x2) (fun v2 => (if v2 = (0 : Int32) then L_XK_forgetYes_2 c1 k64 f (s) ((va_up a 8 (upd (a 8) (x2).toNatClampNeg (((a 8) (x2).toNatClampNeg) &&& (c1 ^^^ (-1 : Int32)))))) ((x2 + (1 : Int32))) else jb (m_X_bit x2) (fun v4 => jg (jin x2 21) (jg (jin x2 21) (jb (m_X_bit x2) (fun v6 => jg (jin x2 21) (jg (jin x2 21) (L_XK_forgetYes_2 c1 k64 f (s) ((va_up (va_up (va_up (va_up a 8 (upd (a 8) (x2).toNatClampNeg (((a 8) (x2).toNatClampNeg) &&& (c1 ^^^ (-1 : Int32))))) 7 (upd ((va_up a 8 (upd (a 8) (x2).toNatClampNeg (((a 8) (x2).toNatClampNeg) &&& (c1 ^^^ (-1 : Int32))))) 7) (x2).toNatClampNeg v4)) 8 (upd (upd (a 8) (x2).toNatClampNeg (((a 8) (x2).toNatClampNeg) &&& (c1 ^^^ (-1 : Int32)))) (x2).toNatClampNeg (((upd (a 8) (x2).toNatClampNeg (((a 8) (x2).toNatClampNeg) &&& (c1 ^^^ (-1 : Int32)))) (x2).toNatClampNeg) ||| v6))) 10 (upd ((va_up (va_up (va_up a 8 (upd (a 8) (x2).toNatClampNeg (((a 8) (x2).toNatClampNeg) &&& (c1 ^^^ (-1 : Int32))))) 7 (upd ((va_up a 8 (upd (a 8) (x2).toNatClampNeg (((a 8) (x2).toNatClampNeg) &&& (c1 ^^^ (-1 : Int32))))) 7) (x2).toNatClampNeg v4)) 8 (upd (upd (a 8) (x2).toNatClampNeg (((a 8) (x2).toNatClampNeg) &&& (c1 ^^^ (-1 : Int32)))) (x2).toNatClampNeg (((upd (a 8) (x2).toNatClampNeg (((a 8) (x2).toNatClampNeg) &&& (c1 ^^^ (-1 : Int32)))) (x2).toNatClampNeg) ||| v6))) 10) (x2).toNatClampNeg (0 : Int32)))) ((x2 + (1 : Int32))))))))))))))
set_option maxRecDepth 100000 in
set_option maxHeartbeats 4000000 in
theorem JL_XK_forgetYes_2 (l : Launch) (c1 : Int32) (k64 : jS → jB → Option (jS × jB)) (r : jS × jB) (hk64 : ∀ (s : jS) (a : jB) (o2 : Option Value), k64 s a = some r → K_XK_forgetYes l 64 [some (.ref 6), some (.int c1), o2] [] (wX s a) (fun v w => v = none ∧ w = wX r.1 r.2)) : ∀ (f : Nat), ∀ (s : jS) (a : jB) (x2 : Int32), L_XK_forgetYes_2 c1 k64 f s a x2 = some r → K_XK_forgetYes l 2 [some (.ref 6), some (.int c1), some (.int x2)] [] (wX s a) (fun v w => v = none ∧ w = wX r.1 r.2) := by
  intro f
  induction f with
  | zero =>
    intro s a x2 h
    cases h
  | succ f ih =>
    intro s a x2 h
    rw [L_XK_forgetYes_2] at h
    refine J_iload_n d_XK_forgetYes_2 rfl ?_
    refine J_bipush (v := (21 : Int32)) d_XK_forgetYes_3 (by decide) ?_
    refine J_icmp_ge (tgt := 64) d_XK_forgetYes_5 (by decide) (fun c => ?_) (fun c => ?_)
    · have h := j_ifp c h
      exact hk64 _ _ _ h
    · have h := j_ifn c h
      refine J_aload_n d_XK_forgetYes_8 rfl ?_
      refine J_get (j := 1) (v := .ref 8) d_XK_forgetYes_9 (wX_at6 _ _) rfl in_3 (by decide) ts_6 rfl ?_
      refine J_iload_n d_XK_forgetYes_12 rfl ?_
      refine J_dup2 d_XK_forgetYes_13 rfl rfl ?_
      obtain ⟨g, h⟩ := jg_some h
      refine J_iald (f := (a 8)) d_XK_forgetYes_14 (wX_at8 _ _) (jin_in g) ?_
      refine J_iload_n d_XK_forgetYes_15 rfl ?_
      refine J_iconst (v := (-1 : Int32)) d_XK_forgetYes_16 (by decide) ?_
      refine J_ixor d_XK_forgetYes_17 ?_
      refine J_iand d_XK_forgetYes_18 ?_
      obtain ⟨g, h⟩ := jg_some h
      refine J_iast (f := (a 8)) d_XK_forgetYes_19 (wX_at8 _ _) (jin_in g) ?_
      refine J_eq (ws' := wX s (va_up a 8 (upd (a 8) (x2).toNatClampNeg (((a 8) (x2).toNatClampNeg) &&& (c1 ^^^ (-1 : Int32)))))) rfl rfl rfl (wX_ast8 _ _ _) ?_
      refine J_iload_n d_XK_forgetYes_20 rfl ?_
      refine J_iload_n d_XK_forgetYes_21 rfl ?_
      obtain ⟨v2, e1, h⟩ := jb_some h
      refine J_cSi2N d_XK_forgetYes_22 (c_X_has l _ _ _ _ e1) ts_8 ts_good rfl rfl ts_4 ns_1 dy_X_has (by decide) (Nat.le_of_ble_eq_true rfl) ts_9 ?_
      refine J_if_eq (tgt := 58) d_XK_forgetYes_25 (by decide) (fun c => ?_) (fun c => ?_)
      · have h := j_ifp c h
        refine J_iinc (v := (x2 + (1 : Int32))) d_XK_forgetYes_58 rfl (by first | rfl | decide) (by decide) ?_
        refine J_goto (tgt := 2) d_XK_forgetYes_61 (by decide) ?_
        exact ih _ _ _ h
      · have h := j_ifn c h
        refine J_aload_n d_XK_forgetYes_28 rfl ?_
        refine J_get (j := 0) (v := .ref 7) d_XK_forgetYes_29 (wX_at6 _ _) rfl in_3 (by decide) ts_2 rfl ?_
        refine J_iload_n d_XK_forgetYes_32 rfl ?_
        refine J_iload_n d_XK_forgetYes_33 rfl ?_
        obtain ⟨v4, e3, h⟩ := jb_some h
        refine J_cSi1N d_XK_forgetYes_34 (c_X_bit l _ _ _ e3) ts_3 ts_good rfl rfl ts_4 ns_0 dy_X_bit (by decide) (Nat.le_of_ble_eq_true rfl) ts_5 ?_
        obtain ⟨g, h⟩ := jg_some h
        refine J_iast (f := ((va_up a 8 (upd (a 8) (x2).toNatClampNeg (((a 8) (x2).toNatClampNeg) &&& (c1 ^^^ (-1 : Int32))))) 7)) d_XK_forgetYes_37 (wX_at7 _ _) (jin_in g) ?_
        refine J_eq (ws' := wX s (va_up (va_up a 8 (upd (a 8) (x2).toNatClampNeg (((a 8) (x2).toNatClampNeg) &&& (c1 ^^^ (-1 : Int32))))) 7 (upd ((va_up a 8 (upd (a 8) (x2).toNatClampNeg (((a 8) (x2).toNatClampNeg) &&& (c1 ^^^ (-1 : Int32))))) 7) (x2).toNatClampNeg v4))) rfl rfl rfl (wX_ast7 _ _ _) ?_
        refine J_aload_n d_XK_forgetYes_38 rfl ?_
        refine J_get (j := 1) (v := .ref 8) d_XK_forgetYes_39 (wX_at6 _ _) rfl in_3 (by decide) ts_6 rfl ?_
        refine J_iload_n d_XK_forgetYes_42 rfl ?_
        refine J_dup2 d_XK_forgetYes_43 rfl rfl ?_
        obtain ⟨g, h⟩ := jg_some h
        refine J_iald (f := (upd (a 8) (x2).toNatClampNeg (((a 8) (x2).toNatClampNeg) &&& (c1 ^^^ (-1 : Int32))))) d_XK_forgetYes_44 (wX_at8 _ _) (jin_in g) ?_
        refine J_iload_n d_XK_forgetYes_45 rfl ?_
        obtain ⟨v6, e5, h⟩ := jb_some h
        refine J_cSi1N d_XK_forgetYes_46 (c_X_bit l _ _ _ e5) ts_3 ts_good rfl rfl ts_4 ns_0 dy_X_bit (by decide) (Nat.le_of_ble_eq_true rfl) ts_5 ?_
        refine J_ior d_XK_forgetYes_49 ?_
        obtain ⟨g, h⟩ := jg_some h
        refine J_iast (f := (upd (a 8) (x2).toNatClampNeg (((a 8) (x2).toNatClampNeg) &&& (c1 ^^^ (-1 : Int32))))) d_XK_forgetYes_50 (wX_at8 _ _) (jin_in g) ?_
        refine J_eq (ws' := wX s (va_up (va_up (va_up a 8 (upd (a 8) (x2).toNatClampNeg (((a 8) (x2).toNatClampNeg) &&& (c1 ^^^ (-1 : Int32))))) 7 (upd ((va_up a 8 (upd (a 8) (x2).toNatClampNeg (((a 8) (x2).toNatClampNeg) &&& (c1 ^^^ (-1 : Int32))))) 7) (x2).toNatClampNeg v4)) 8 (upd (upd (a 8) (x2).toNatClampNeg (((a 8) (x2).toNatClampNeg) &&& (c1 ^^^ (-1 : Int32)))) (x2).toNatClampNeg (((upd (a 8) (x2).toNatClampNeg (((a 8) (x2).toNatClampNeg) &&& (c1 ^^^ (-1 : Int32)))) (x2).toNatClampNeg) ||| v6)))) rfl rfl rfl (wX_ast8 _ _ _) ?_
        refine J_aload_n d_XK_forgetYes_51 rfl ?_
        refine J_get (j := 3) (v := .ref 10) d_XK_forgetYes_52 (wX_at6 _ _) rfl in_3 (by decide) ts_19 rfl ?_
        refine J_iload_n d_XK_forgetYes_55 rfl ?_
        refine J_iconst (v := (0 : Int32)) d_XK_forgetYes_56 (by decide) ?_
        obtain ⟨g, h⟩ := jg_some h
        refine J_iast (f := ((va_up (va_up (va_up a 8 (upd (a 8) (x2).toNatClampNeg (((a 8) (x2).toNatClampNeg) &&& (c1 ^^^ (-1 : Int32))))) 7 (upd ((va_up a 8 (upd (a 8) (x2).toNatClampNeg (((a 8) (x2).toNatClampNeg) &&& (c1 ^^^ (-1 : Int32))))) 7) (x2).toNatClampNeg v4)) 8 (upd (upd (a 8) (x2).toNatClampNeg (((a 8) (x2).toNatClampNeg) &&& (c1 ^^^ (-1 : Int32)))) (x2).toNatClampNeg (((upd (a 8) (x2).toNatClampNeg (((a 8) (x2).toNatClampNeg) &&& (c1 ^^^ (-1 : Int32)))) (x2).toNatClampNeg) ||| v6))) 10)) d_XK_forgetYes_57 (wX_at10 _ _) (jin_in g) ?_
        refine J_eq (ws' := wX s (va_up (va_up (va_up (va_up a 8 (upd (a 8) (x2).toNatClampNeg (((a 8) (x2).toNatClampNeg) &&& (c1 ^^^ (-1 : Int32))))) 7 (upd ((va_up a 8 (upd (a 8) (x2).toNatClampNeg (((a 8) (x2).toNatClampNeg) &&& (c1 ^^^ (-1 : Int32))))) 7) (x2).toNatClampNeg v4)) 8 (upd (upd (a 8) (x2).toNatClampNeg (((a 8) (x2).toNatClampNeg) &&& (c1 ^^^ (-1 : Int32)))) (x2).toNatClampNeg (((upd (a 8) (x2).toNatClampNeg (((a 8) (x2).toNatClampNeg) &&& (c1 ^^^ (-1 : Int32)))) (x2).toNatClampNeg) ||| v6))) 10 (upd ((va_up (va_up (va_up a 8 (upd (a 8) (x2).toNatClampNeg (((a 8) (x2).toNatClampNeg) &&& (c1 ^^^ (-1 : Int32))))) 7 (upd ((va_up a 8 (upd (a 8) (x2).toNatClampNeg (((a 8) (x2).toNatClampNeg) &&& (c1 ^^^ (-1 : Int32))))) 7) (x2).toNatClampNeg v4)) 8 (upd (upd (a 8) (x2).toNatClampNeg (((a 8) (x2).toNatClampNeg) &&& (c1 ^^^ (-1 : Int32)))) (x2).toNatClampNeg (((upd (a 8) (x2).toNatClampNeg (((a 8) (x2).toNatClampNeg) &&& (c1 ^^^ (-1 : Int32)))) (x2).toNatClampNeg) ||| v6))) 10) (x2).toNatClampNeg (0 : Int32)))) rfl rfl rfl (wX_ast10 _ _ _) ?_
        refine J_iinc (v := (x2 + (1 : Int32))) d_XK_forgetYes_58 rfl (by first | rfl | decide) (by decide) ?_
        refine J_goto (tgt := 2) d_XK_forgetYes_61 (by decide) ?_
        exact ih _ _ _ h
def m_XK_forgetYes (s : jS) (a : jB) (p0 : Int32) : Option (jS × jB) := L_XK_forgetYes_2 (p0) (fun s7 a8 => some (s7, a8)) jF (s) (a) ((0 : Int32))
set_option maxRecDepth 100000 in
set_option maxHeartbeats 4000000 in
theorem c_XK_forgetYes (l : Launch) (s : jS) (a : jB) (p0 : Int32) (r : jS × jB) (h : m_XK_forgetYes s a p0 = some r) : JMet l vwCl NsG (.code y_XK_forgetYes prog_3_method_14_code 3 none :: TsG) y_XK_forgetYes rm_XK_forgetYes [.ref 6, .int p0] (wX s a) (fun v w => v = none ∧ w = wX r.1 r.2) := by
  refine J_enter (by decide +kernel) rfl (Nat.le_of_ble_eq_true rfl) ?_
  unfold m_XK_forgetYes at h
  refine J_eq (ls' := [some (.ref 6), some (.int p0), none]) rfl rfl rfl rfl ?_
  refine J_iconst (v := (0 : Int32)) d_XK_forgetYes_0 (by decide) ?_
  refine J_istore_n d_XK_forgetYes_1 (by decide) ?_
  refine JL_XK_forgetYes_2 l _ _ r (fun s7 a8 o9 h => ?_) jF _ _ _ h
  exact J_vret d_XK_forgetYes_64 rfl (by cases h; exact ⟨rfl, rfl⟩)
abbrev rm_X_remove : Room := { frames := 5, cells := 0, slots := 0, locals := 108 }
abbrev K_X_remove (l : Launch) := JW l vwCl NsG TsG "ClassifySort" prog_1_method_5_code 4 (some .int) rm_X_remove
def m_X_remove (s : jS) (a : jB) (p0 : Int32) : Option (Int32 × jS × jB) := jb (m_XA_isThere s a p0) (fun v2 => (if v2 = (0 : Int32) then some ((-1 : Int32), s, a) else jb (m_XK_knownPairs s a (s 0)) (fun v4 => jb (m_XA_touchedBy s a p0) (fun v6 => jb2 (m_XA_drop s a p0) (fun s8 a9 => jb2 (m_XK_forgetYes s8 a9 v6) (fun s11 a12 => jb2 (m_X_tellAxioms s11 a12) (fun s14 a15 => jb (m_XK_knownPairs (upd s14 3 (0 : Int32)) a15 ((upd s14 3 (0 : Int32)) 0)) (fun v17 => some ((v4 - v17), (upd s14 3 (0 : Int32)), a15)))))))))
set_option maxRecDepth 100000 in
set_option maxHeartbeats 4000000 in
theorem c_X_remove (l : Launch) (s : jS) (a : jB) (p0 : Int32) (r : Int32 × jS × jB) (h : m_X_remove s a p0 = some r) : JMet l vwCl NsG (.code y_X_remove prog_1_method_5_code 4 (some .int) :: TsG) y_X_remove rm_X_remove [.ref 0, .int p0] (wX s a) (fun v w => v = some (.int r.1) ∧ w = wX r.2.1 r.2.2) := by
  refine J_enter (by decide +kernel) rfl (Nat.le_of_ble_eq_true rfl) ?_
  unfold m_X_remove at h
  refine J_eq (ls' := [some (.ref 0), some (.int p0), none, none]) rfl rfl rfl rfl ?_
  refine J_aload_n d_X_remove_0 rfl ?_
  refine J_get (j := 0) (v := .ref 1) d_X_remove_1 (wX_at0 _ _) rfl in_0 (by decide) ts_38 rfl ?_
  refine J_iload_n d_X_remove_4 rfl ?_
  obtain ⟨v2, e1, h⟩ := jb_some h
  refine J_cVi1 d_X_remove_5 (c_XA_isThere l _ _ _ _ e1) (wX_at1 _ _) rfl ts_90 ts_good rfl rfl ts_41 ts_91 dy_XA_isThere (by decide) (Nat.le_of_ble_eq_true rfl) ts_92 ts_93 ?_
  refine J_if_ne (tgt := 13) d_X_remove_8 (by decide) (fun c => ?_) (fun c => ?_)
  · have h := j_ifn c h
    refine J_aload_n d_X_remove_13 rfl ?_
    refine J_get (j := 2) (v := .ref 6) d_X_remove_14 (wX_at0 _ _) rfl in_0 (by decide) ts_1 rfl ?_
    refine J_aload_n d_X_remove_17 rfl ?_
    refine J_get (j := 5) (v := .int (s 0)) d_X_remove_18 (wX_at0 _ _) rfl in_0 (by decide) ts_0 rfl ?_
    obtain ⟨v4, e3, h⟩ := jb_some h
    refine J_cVi1 d_X_remove_21 (c_XK_knownPairs l _ _ _ _ e3) (wX_at6 _ _) rfl ts_95 ts_good rfl rfl ts_11 ts_96 dy_XK_knownPairs (by decide) (Nat.le_of_ble_eq_true rfl) ts_97 ts_98 ?_
    refine J_istore_n d_X_remove_24 (by decide) ?_
    refine J_aload_n d_X_remove_25 rfl ?_
    refine J_get (j := 0) (v := .ref 1) d_X_remove_26 (wX_at0 _ _) rfl in_0 (by decide) ts_38 rfl ?_
    refine J_iload_n d_X_remove_29 rfl ?_
    obtain ⟨v6, e5, h⟩ := jb_some h
    refine J_cVi1 d_X_remove_30 (c_XA_touchedBy l _ _ _ _ e5) (wX_at1 _ _) rfl ts_60 ts_good rfl rfl ts_41 ts_61 dy_XA_touchedBy (by decide) (Nat.le_of_ble_eq_true rfl) ts_62 ts_63 ?_
    refine J_istore_n d_X_remove_33 (by decide) ?_
    refine J_aload_n d_X_remove_34 rfl ?_
    refine J_get (j := 0) (v := .ref 1) d_X_remove_35 (wX_at0 _ _) rfl in_0 (by decide) ts_38 rfl ?_
    refine J_iload_n d_X_remove_38 rfl ?_
    obtain ⟨s8, a9, e7, h⟩ := jb2_some h
    refine J_cVv1 d_X_remove_39 (c_XA_drop l _ _ _ _ e7) (wX_at1 _ _) rfl ts_100 ts_good rfl rfl ts_41 ts_101 dy_XA_drop (by decide) (Nat.le_of_ble_eq_true rfl) ts_102 ts_103 ?_
    refine J_aload_n d_X_remove_42 rfl ?_
    refine J_get (j := 2) (v := .ref 6) d_X_remove_43 (wX_at0 _ _) rfl in_0 (by decide) ts_1 rfl ?_
    refine J_iload_n d_X_remove_46 rfl ?_
    obtain ⟨s11, a12, e10, h⟩ := jb2_some h
    refine J_cVv1 d_X_remove_47 (c_XK_forgetYes l _ _ _ _ e10) (wX_at6 _ _) rfl ts_104 ts_good rfl rfl ts_11 ts_105 dy_XK_forgetYes (by decide) (Nat.le_of_ble_eq_true rfl) ts_106 ts_107 ?_
    refine J_aload_n d_X_remove_50 rfl ?_
    obtain ⟨s14, a15, e13, h⟩ := jb2_some h
    refine J_cVv0 d_X_remove_51 (c_X_tellAxioms l _ _ _ e13) (wX_at0 _ _) rfl ts_86 ts_good rfl rfl ts_4 ts_87 dy_X_tellAxioms (by decide) (Nat.le_of_ble_eq_true rfl) ts_88 ts_89 ?_
    refine J_aload_n d_X_remove_54 rfl ?_
    refine J_iconst (v := (0 : Int32)) d_X_remove_55 (by decide) ?_
    refine J_put (j := 8) d_X_remove_56 (wX_at0 _ _) rfl in_0 ty_X tyok_X nok_X (by decide) ts_28 rfl (tyok_X 8 (by decide)) (by decide) (by decide) (Nat.le_of_ble_eq_true rfl) ?_
    refine J_eq rfl rfl rfl (wX_put3 _ _ _) ?_
    refine J_iload_n d_X_remove_59 rfl ?_
    refine J_aload_n d_X_remove_60 rfl ?_
    refine J_get (j := 2) (v := .ref 6) d_X_remove_61 (wX_at0 _ _) rfl in_0 (by decide) ts_1 rfl ?_
    refine J_aload_n d_X_remove_64 rfl ?_
    refine J_get (j := 5) (v := .int ((upd s14 3 (0 : Int32)) 0)) d_X_remove_65 (wX_at0 _ _) rfl in_0 (by decide) ts_0 rfl ?_
    obtain ⟨v17, e16, h⟩ := jb_some h
    refine J_cVi1 d_X_remove_68 (c_XK_knownPairs l _ _ _ _ e16) (wX_at6 _ _) rfl ts_95 ts_good rfl rfl ts_11 ts_96 dy_XK_knownPairs (by decide) (Nat.le_of_ble_eq_true rfl) ts_97 ts_98 ?_
    refine J_isub d_X_remove_71 ?_
    exact J_iret d_X_remove_72 rfl rfl (by cases h; exact ⟨rfl, rfl⟩)
  · have h := j_ifp c h
    refine J_iconst (v := (-1 : Int32)) d_X_remove_11 (by decide) ?_
    exact J_iret d_X_remove_12 rfl rfl (by cases h; exact ⟨rfl, rfl⟩)
abbrev rm_XK_openPairs : Room := { frames := 1, cells := 0, slots := 0, locals := 20 }
abbrev K_XK_openPairs (l : Launch) := JW l vwCl NsG TsG "ClassifySort$Knowledge" prog_3_method_17_code 4 (some .int) rm_XK_openPairs
def L_XK_openPairs_4 (s : jS) (a : jB) (c1 : Int32) (k33 : Int32 → Option (Int32)) : Nat → Int32 → Int32 → Option (Int32)
  | 0, _, _ => none
  | f + 1, x2, x3 => (if c1 ≤ x3 then k33 (x2) else (if (20 : Int32) ≤ x3 then k33 (x2) else jg (jin x3 21) (jb (m_JI_bitCount ((a 10) (x3).toNatClampNeg)) (fun v2 => L_XK_openPairs_4 s a c1 k33 f ((x2 + v2)) ((x3 + (1 : Int32)))))))
set_option maxRecDepth 100000 in
set_option maxHeartbeats 4000000 in
theorem JL_XK_openPairs_4 (l : Launch) (s : jS) (a : jB) (c1 : Int32) (k33 : Int32 → Option (Int32)) (r : Int32) (hk33 : ∀ (x2 : Int32) (o3 : Option Value), k33 x2 = some r → K_XK_openPairs l 33 [some (.ref 6), some (.int c1), some (.int x2), o3] [] (wX s a) (fun v w => v = some (.int r) ∧ w = wX s a)) : ∀ (f : Nat), ∀ (x2 : Int32) (x3 : Int32), L_XK_openPairs_4 s a c1 k33 f x2 x3 = some r → K_XK_openPairs l 4 [some (.ref 6), some (.int c1), some (.int x2), some (.int x3)] [] (wX s a) (fun v w => v = some (.int r) ∧ w = wX s a) := by
  intro f
  induction f with
  | zero =>
    intro x2 x3 h
    cases h
  | succ f ih =>
    intro x2 x3 h
    rw [L_XK_openPairs_4] at h
    refine J_iload_n d_XK_openPairs_4 rfl ?_
    refine J_iload_n d_XK_openPairs_5 rfl ?_
    refine J_icmp_ge (tgt := 33) d_XK_openPairs_6 (by decide) (fun c => ?_) (fun c => ?_)
    · have h := j_ifp c h
      exact hk33 _ _ h
    · have h := j_ifn c h
      refine J_iload_n d_XK_openPairs_9 rfl ?_
      refine J_bipush (v := (20 : Int32)) d_XK_openPairs_10 (by decide) ?_
      refine J_icmp_ge (tgt := 33) d_XK_openPairs_12 (by decide) (fun c => ?_) (fun c => ?_)
      · have h := j_ifp c h
        exact hk33 _ _ h
      · have h := j_ifn c h
        refine J_iload_n d_XK_openPairs_15 rfl ?_
        refine J_aload_n d_XK_openPairs_16 rfl ?_
        refine J_get (j := 3) (v := .ref 10) d_XK_openPairs_17 (wX_at6 _ _) rfl in_3 (by decide) ts_19 rfl ?_
        refine J_iload_n d_XK_openPairs_20 rfl ?_
        obtain ⟨g, h⟩ := jg_some h
        refine J_iald (f := (a 10)) d_XK_openPairs_21 (wX_at10 _ _) (jin_in g) ?_
        obtain ⟨v2, e1, h⟩ := jb_some h
        refine J_cSi1 d_XK_openPairs_22 (c_JI_bitCount l _ _ _ e1) ts_72 ts_good rfl rfl ts_73 ts_94 dy_JI_bitCount (by decide) (Nat.le_of_ble_eq_true rfl) ts_75 ?_
        refine J_iadd d_XK_openPairs_25 ?_
        refine J_istore_n d_XK_openPairs_26 (by decide) ?_
        refine J_iinc (v := (x3 + (1 : Int32))) d_XK_openPairs_27 rfl (by first | rfl | decide) (by decide) ?_
        refine J_goto (tgt := 4) d_XK_openPairs_30 (by decide) ?_
        exact ih _ _ h
def m_XK_openPairs (s : jS) (a : jB) (p0 : Int32) : Option (Int32) := L_XK_openPairs_4 (s) (a) (p0) (fun x3 => some (x3)) jF ((0 : Int32)) ((0 : Int32))
set_option maxRecDepth 100000 in
set_option maxHeartbeats 4000000 in
theorem c_XK_openPairs (l : Launch) (s : jS) (a : jB) (p0 : Int32) (r : Int32) (h : m_XK_openPairs s a p0 = some r) : JMet l vwCl NsG (.code y_XK_openPairs prog_3_method_17_code 4 (some .int) :: TsG) y_XK_openPairs rm_XK_openPairs [.ref 6, .int p0] (wX s a) (fun v w => v = some (.int r) ∧ w = wX s a) := by
  refine J_enter (by decide +kernel) rfl (Nat.le_of_ble_eq_true rfl) ?_
  unfold m_XK_openPairs at h
  refine J_eq (ls' := [some (.ref 6), some (.int p0), none, none]) rfl rfl rfl rfl ?_
  refine J_iconst (v := (0 : Int32)) d_XK_openPairs_0 (by decide) ?_
  refine J_istore_n d_XK_openPairs_1 (by decide) ?_
  refine J_iconst (v := (0 : Int32)) d_XK_openPairs_2 (by decide) ?_
  refine J_istore_n d_XK_openPairs_3 (by decide) ?_
  refine JL_XK_openPairs_4 l _ _ _ _ r (fun x3 o4 h => ?_) jF _ _ h
  refine J_iload_n d_XK_openPairs_33 rfl ?_
  exact J_iret d_XK_openPairs_34 rfl rfl (by cases h; exact ⟨rfl, rfl⟩)
abbrev rm_XR_fillUp : Room := { frames := 1, cells := 0, slots := 0, locals := 29 }
abbrev K_XR_fillUp (l : Launch) := JW l vwCl NsG TsG "ClassifySort$Reasoner" prog_5_method_2_code 2 none rm_XR_fillUp
def m_XR_fillUp (s : jS) (a : jB) (p0 : Int32) : Option (jS × jB) := some ((upd s 6 (if (0 : Int32) < (if (20 : Int32) < p0 then (20 : Int32) else p0) then (if (20 : Int32) < p0 then (20 : Int32) else p0) else (0 : Int32))), a)
set_option maxRecDepth 100000 in
set_option maxHeartbeats 4000000 in
theorem c_XR_fillUp (l : Launch) (s : jS) (a : jB) (p0 : Int32) (r : jS × jB) (h : m_XR_fillUp s a p0 = some r) : JMet l vwCl NsG (.code y_XR_fillUp prog_5_method_2_code 2 none :: TsG) y_XR_fillUp rm_XR_fillUp [.ref 4, .int p0] (wX s a) (fun v w => v = none ∧ w = wX r.1 r.2) := by
  refine J_enter (by decide +kernel) rfl (Nat.le_of_ble_eq_true rfl) ?_
  unfold m_XR_fillUp at h
  refine J_eq (ls' := [some (.ref 4), some (.int p0)]) rfl rfl rfl rfl ?_
  refine J_aload_n d_XR_fillUp_0 rfl ?_
  refine J_iconst (v := (0 : Int32)) d_XR_fillUp_1 (by decide) ?_
  refine J_iload_n d_XR_fillUp_2 rfl ?_
  refine J_bipush (v := (20 : Int32)) d_XR_fillUp_3 (by decide) ?_
  refine J_mmin d_XR_fillUp_5 ts_113 ts_114 ts_115 ts_116 (by decide) (Nat.le_of_ble_eq_true rfl) ?_
  refine J_mmax d_XR_fillUp_8 ts_117 ts_118 ts_115 ts_119 (by decide) (Nat.le_of_ble_eq_true rfl) ?_
  refine J_put (j := 2) d_XR_fillUp_11 (wX_at4 _ _) rfl in_2 ty_XR tyok_XR nok_XR (by decide) ts_120 rfl (tyok_XR 2 (by decide)) rfl rfl (Nat.le_of_ble_eq_true rfl) ?_
  refine J_eq rfl rfl rfl (wX_put6 _ _ _) ?_
  exact J_vret d_XR_fillUp_14 rfl (by cases h; exact ⟨rfl, rfl⟩)
abbrev rm_XK_forgetOpen : Room := { frames := 0, cells := 0, slots := 0, locals := 0 }
abbrev K_XK_forgetOpen (l : Launch) := JW l vwCl NsG TsG "ClassifySort$Knowledge" prog_3_method_15_code 2 none rm_XK_forgetOpen
def L_XK_forgetOpen_2 (k21 : jS → jB → Option (jS × jB)) : Nat → jS → jB → Int32 → Option (jS × jB)
  | 0, _, _, _ => none
  | f + 1, s, a, x1 => (if (21 : Int32) ≤ x1 then k21 (s) (a) else jg (jin x1 21) (L_XK_forgetOpen_2 k21 f (s) ((va_up a 10 (upd (a 10) (x1).toNatClampNeg (0 : Int32)))) ((x1 + (1 : Int32)))))
set_option maxRecDepth 100000 in
set_option maxHeartbeats 4000000 in
theorem JL_XK_forgetOpen_2 (l : Launch) (k21 : jS → jB → Option (jS × jB)) (r : jS × jB) (hk21 : ∀ (s : jS) (a : jB) (o1 : Option Value), k21 s a = some r → K_XK_forgetOpen l 21 [some (.ref 6), o1] [] (wX s a) (fun v w => v = none ∧ w = wX r.1 r.2)) : ∀ (f : Nat), ∀ (s : jS) (a : jB) (x1 : Int32), L_XK_forgetOpen_2 k21 f s a x1 = some r → K_XK_forgetOpen l 2 [some (.ref 6), some (.int x1)] [] (wX s a) (fun v w => v = none ∧ w = wX r.1 r.2) := by
  intro f
  induction f with
  | zero =>
    intro s a x1 h
    cases h
  | succ f ih =>
    intro s a x1 h
    rw [L_XK_forgetOpen_2] at h
    refine J_iload_n d_XK_forgetOpen_2 rfl ?_
    refine J_bipush (v := (21 : Int32)) d_XK_forgetOpen_3 (by decide) ?_
    refine J_icmp_ge (tgt := 21) d_XK_forgetOpen_5 (by decide) (fun c => ?_) (fun c => ?_)
    · have h := j_ifp c h
      exact hk21 _ _ _ h
    · have h := j_ifn c h
      refine J_aload_n d_XK_forgetOpen_8 rfl ?_
      refine J_get (j := 3) (v := .ref 10) d_XK_forgetOpen_9 (wX_at6 _ _) rfl in_3 (by decide) ts_19 rfl ?_
      refine J_iload_n d_XK_forgetOpen_12 rfl ?_
      refine J_iconst (v := (0 : Int32)) d_XK_forgetOpen_13 (by decide) ?_
      obtain ⟨g, h⟩ := jg_some h
      refine J_iast (f := (a 10)) d_XK_forgetOpen_14 (wX_at10 _ _) (jin_in g) ?_
      refine J_eq (ws' := wX s (va_up a 10 (upd (a 10) (x1).toNatClampNeg (0 : Int32)))) rfl rfl rfl (wX_ast10 _ _ _) ?_
      refine J_iinc (v := (x1 + (1 : Int32))) d_XK_forgetOpen_15 rfl (by first | rfl | decide) (by decide) ?_
      refine J_goto (tgt := 2) d_XK_forgetOpen_18 (by decide) ?_
      exact ih _ _ _ h
def m_XK_forgetOpen (s : jS) (a : jB) : Option (jS × jB) := L_XK_forgetOpen_2 (fun s1 a2 => some (s1, a2)) jF (s) (a) ((0 : Int32))
set_option maxRecDepth 100000 in
set_option maxHeartbeats 4000000 in
theorem c_XK_forgetOpen (l : Launch) (s : jS) (a : jB) (r : jS × jB) (h : m_XK_forgetOpen s a = some r) : JMet l vwCl NsG (.code y_XK_forgetOpen prog_3_method_15_code 2 none :: TsG) y_XK_forgetOpen rm_XK_forgetOpen [.ref 6] (wX s a) (fun v w => v = none ∧ w = wX r.1 r.2) := by
  refine J_enter (by decide +kernel) rfl (Nat.le_of_ble_eq_true rfl) ?_
  unfold m_XK_forgetOpen at h
  refine J_eq (ls' := [some (.ref 6), none]) rfl rfl rfl rfl ?_
  refine J_iconst (v := (0 : Int32)) d_XK_forgetOpen_0 (by decide) ?_
  refine J_istore_n d_XK_forgetOpen_1 (by decide) ?_
  refine JL_XK_forgetOpen_2 l _ r (fun s1 a2 o3 h => ?_) jF _ _ _ h
  exact J_vret d_XK_forgetOpen_21 rfl (by cases h; exact ⟨rfl, rfl⟩)
abbrev rm_X_fuel : Room := { frames := 2, cells := 0, slots := 0, locals := 50 }
abbrev K_X_fuel (l : Launch) := JW l vwCl NsG TsG "ClassifySort" prog_1_method_6_code 3 (some .int) rm_X_fuel
def m_X_fuel (s : jS) (a : jB) (p0 : Int32) : Option (Int32 × jS × jB) := (if p0 < (0 : Int32) then some ((-2 : Int32), s, a) else (if p0 ≤ (20 : Int32) then jb (m_XK_openPairs s a (s 0)) (fun v2 => jb2 (m_XR_fillUp s a p0) (fun s4 a5 => jb2 (m_XK_forgetOpen s4 a5) (fun s7 a8 => some (v2, (upd s7 3 (0 : Int32)), a8)))) else some ((-2 : Int32), s, a)))
set_option maxRecDepth 100000 in
set_option maxHeartbeats 4000000 in
theorem c_X_fuel (l : Launch) (s : jS) (a : jB) (p0 : Int32) (r : Int32 × jS × jB) (h : m_X_fuel s a p0 = some r) : JMet l vwCl NsG (.code y_X_fuel prog_1_method_6_code 3 (some .int) :: TsG) y_X_fuel rm_X_fuel [.ref 0, .int p0] (wX s a) (fun v w => v = some (.int r.1) ∧ w = wX r.2.1 r.2.2) := by
  refine J_enter (by decide +kernel) rfl (Nat.le_of_ble_eq_true rfl) ?_
  unfold m_X_fuel at h
  refine J_eq (ls' := [some (.ref 0), some (.int p0), none]) rfl rfl rfl rfl ?_
  refine J_iload_n d_X_fuel_0 rfl ?_
  refine J_if_lt (tgt := 10) d_X_fuel_1 (by decide) (fun c => ?_) (fun c => ?_)
  · have h := j_ifp c h
    refine J_bipush (v := (-2 : Int32)) d_X_fuel_10 (by decide) ?_
    exact J_iret d_X_fuel_12 rfl rfl (by cases h; exact ⟨rfl, rfl⟩)
  · have h := j_ifn c h
    refine J_iload_n d_X_fuel_4 rfl ?_
    refine J_bipush (v := (20 : Int32)) d_X_fuel_5 (by decide) ?_
    refine J_icmp_le (tgt := 13) d_X_fuel_7 (by decide) (fun c => ?_) (fun c => ?_)
    · have h := j_ifp c h
      refine J_aload_n d_X_fuel_13 rfl ?_
      refine J_get (j := 2) (v := .ref 6) d_X_fuel_14 (wX_at0 _ _) rfl in_0 (by decide) ts_1 rfl ?_
      refine J_aload_n d_X_fuel_17 rfl ?_
      refine J_get (j := 5) (v := .int (s 0)) d_X_fuel_18 (wX_at0 _ _) rfl in_0 (by decide) ts_0 rfl ?_
      obtain ⟨v2, e1, h⟩ := jb_some h
      refine J_cVi1 d_X_fuel_21 (c_XK_openPairs l _ _ _ _ e1) (wX_at6 _ _) rfl ts_108 ts_good rfl rfl ts_11 ts_109 dy_XK_openPairs (by decide) (Nat.le_of_ble_eq_true rfl) ts_110 ts_111 ?_
      refine J_istore_n d_X_fuel_24 (by decide) ?_
      refine J_aload_n d_X_fuel_25 rfl ?_
      refine J_get (j := 1) (v := .ref 4) d_X_fuel_26 (wX_at0 _ _) rfl in_0 (by decide) ts_112 rfl ?_
      refine J_iload_n d_X_fuel_29 rfl ?_
      obtain ⟨s4, a5, e3, h⟩ := jb2_some h
      refine J_cVv1 d_X_fuel_30 (c_XR_fillUp l _ _ _ _ e3) (wX_at4 _ _) rfl ts_121 ts_good rfl rfl ts_122 ts_123 dy_XR_fillUp (by decide) (Nat.le_of_ble_eq_true rfl) ts_124 ts_125 ?_
      refine J_aload_n d_X_fuel_33 rfl ?_
      refine J_get (j := 2) (v := .ref 6) d_X_fuel_34 (wX_at0 _ _) rfl in_0 (by decide) ts_1 rfl ?_
      obtain ⟨s7, a8, e6, h⟩ := jb2_some h
      refine J_cVv0 d_X_fuel_37 (c_XK_forgetOpen l _ _ _ e6) (wX_at6 _ _) rfl ts_126 ts_good rfl rfl ts_11 ts_127 dy_XK_forgetOpen (by decide) (Nat.le_of_ble_eq_true rfl) ts_128 ts_129 ?_
      refine J_aload_n d_X_fuel_40 rfl ?_
      refine J_iconst (v := (0 : Int32)) d_X_fuel_41 (by decide) ?_
      refine J_put (j := 8) d_X_fuel_42 (wX_at0 _ _) rfl in_0 ty_X tyok_X nok_X (by decide) ts_28 rfl (tyok_X 8 (by decide)) (by decide) (by decide) (Nat.le_of_ble_eq_true rfl) ?_
      refine J_eq rfl rfl rfl (wX_put3 _ _ _) ?_
      refine J_iload_n d_X_fuel_45 rfl ?_
      exact J_iret d_X_fuel_46 rfl rfl (by cases h; exact ⟨rfl, rfl⟩)
    · have h := j_ifn c h
      refine J_bipush (v := (-2 : Int32)) d_X_fuel_10 (by decide) ?_
      exact J_iret d_X_fuel_12 rfl rfl (by cases h; exact ⟨rfl, rfl⟩)
abbrev rm_XK_of : Room := { frames := 2, cells := 0, slots := 0, locals := 41 }
abbrev K_XK_of (l : Launch) := JW l vwCl NsG TsG "ClassifySort$Knowledge" prog_3_method_3_code 3 (some .int) rm_XK_of
def m_XK_of (s : jS) (a : jB) (p0 : Int32) (p1 : Int32) : Option (Int32) := jg (jin p0 21) (jb (m_X_has ((a 7) (p0).toNatClampNeg) p1) (fun v2 => (if v2 = (0 : Int32) then jg (jin p0 21) (jb (m_X_has ((a 9) (p0).toNatClampNeg) p1) (fun v4 => (if v4 = (0 : Int32) then jg (jin p0 21) (jb (m_X_has ((a 10) (p0).toNatClampNeg) p1) (fun v6 => jb (if v6 = (0 : Int32) then some (3 : Int32) else some (2 : Int32)) (fun b7 => some (b7)))) else some ((0 : Int32))))) else some ((1 : Int32)))))
set_option maxRecDepth 100000 in
set_option maxHeartbeats 4000000 in
theorem c_XK_of (l : Launch) (s : jS) (a : jB) (p0 : Int32) (p1 : Int32) (r : Int32) (h : m_XK_of s a p0 p1 = some r) : JMet l vwCl NsG (.code y_XK_of prog_3_method_3_code 3 (some .int) :: TsG) y_XK_of rm_XK_of [.ref 6, .int p0, .int p1] (wX s a) (fun v w => v = some (.int r) ∧ w = wX s a) := by
  refine J_enter (by decide +kernel) rfl (Nat.le_of_ble_eq_true rfl) ?_
  unfold m_XK_of at h
  refine J_eq (ls' := [some (.ref 6), some (.int p0), some (.int p1)]) rfl rfl rfl rfl ?_
  refine J_aload_n d_XK_of_0 rfl ?_
  refine J_get (j := 0) (v := .ref 7) d_XK_of_1 (wX_at6 _ _) rfl in_3 (by decide) ts_2 rfl ?_
  refine J_iload_n d_XK_of_4 rfl ?_
  obtain ⟨g, h⟩ := jg_some h
  refine J_iald (f := (a 7)) d_XK_of_5 (wX_at7 _ _) (jin_in g) ?_
  refine J_iload_n d_XK_of_6 rfl ?_
  obtain ⟨v2, e1, h⟩ := jb_some h
  refine J_cSi2N d_XK_of_7 (c_X_has l _ _ _ _ e1) ts_8 ts_good rfl rfl ts_4 ns_1 dy_X_has (by decide) (Nat.le_of_ble_eq_true rfl) ts_9 ?_
  refine J_if_eq (tgt := 15) d_XK_of_10 (by decide) (fun c => ?_) (fun c => ?_)
  · have h := j_ifp c h
    refine J_aload_n d_XK_of_15 rfl ?_
    refine J_get (j := 2) (v := .ref 9) d_XK_of_16 (wX_at6 _ _) rfl in_3 (by decide) ts_15 rfl ?_
    refine J_iload_n d_XK_of_19 rfl ?_
    obtain ⟨g, h⟩ := jg_some h
    refine J_iald (f := (a 9)) d_XK_of_20 (wX_at9 _ _) (jin_in g) ?_
    refine J_iload_n d_XK_of_21 rfl ?_
    obtain ⟨v4, e3, h⟩ := jb_some h
    refine J_cSi2N d_XK_of_22 (c_X_has l _ _ _ _ e3) ts_8 ts_good rfl rfl ts_4 ns_1 dy_X_has (by decide) (Nat.le_of_ble_eq_true rfl) ts_9 ?_
    refine J_if_eq (tgt := 30) d_XK_of_25 (by decide) (fun c => ?_) (fun c => ?_)
    · have h := j_ifp c h
      refine J_aload_n d_XK_of_30 rfl ?_
      refine J_get (j := 3) (v := .ref 10) d_XK_of_31 (wX_at6 _ _) rfl in_3 (by decide) ts_19 rfl ?_
      refine J_iload_n d_XK_of_34 rfl ?_
      obtain ⟨g, h⟩ := jg_some h
      refine J_iald (f := (a 10)) d_XK_of_35 (wX_at10 _ _) (jin_in g) ?_
      refine J_iload_n d_XK_of_36 rfl ?_
      obtain ⟨v6, e5, h⟩ := jb_some h
      refine J_cSi2N d_XK_of_37 (c_X_has l _ _ _ _ e5) ts_8 ts_good rfl rfl ts_4 ns_1 dy_X_has (by decide) (Nat.le_of_ble_eq_true rfl) ts_9 ?_
      obtain ⟨b7, hb7, h⟩ := jb_some h
      have kb7 : K_XK_of l 48 [some (.ref 6), some (.int p0), some (.int p1)] [.int b7] (wX s a) (fun v w => v = some (.int r) ∧ w = wX s a) := by
        exact J_iret d_XK_of_48 rfl rfl (by cases h; exact ⟨rfl, rfl⟩)
      clear h
      have h := hb7
      refine J_if_eq (tgt := 47) d_XK_of_40 (by decide) (fun c => ?_) (fun c => ?_)
      · have h := j_ifp c h
        refine J_iconst (v := (3 : Int32)) d_XK_of_47 (by decide) ?_
        cases h
        exact kb7
      · have h := j_ifn c h
        refine J_iconst (v := (2 : Int32)) d_XK_of_43 (by decide) ?_
        refine J_goto (tgt := 48) d_XK_of_44 (by decide) ?_
        cases h
        exact kb7
    · have h := j_ifn c h
      refine J_iconst (v := (0 : Int32)) d_XK_of_28 (by decide) ?_
      exact J_iret d_XK_of_29 rfl rfl (by cases h; exact ⟨rfl, rfl⟩)
  · have h := j_ifn c h
    refine J_iconst (v := (1 : Int32)) d_XK_of_13 (by decide) ?_
    exact J_iret d_XK_of_14 rfl rfl (by cases h; exact ⟨rfl, rfl⟩)
abbrev rm_X_known : Room := { frames := 3, cells := 0, slots := 0, locals := 63 }
abbrev K_X_known (l : Launch) := JW l vwCl NsG TsG "ClassifySort" prog_1_method_7_code 3 (some .int) rm_X_known
def m_X_known (s : jS) (a : jB) (p0 : Int32) (p1 : Int32) : Option (Int32) := jb (m_X_isClass s a p0) (fun v2 => (if v2 = (0 : Int32) then some ((-1 : Int32)) else jb (m_X_isGoal s a p1) (fun v4 => (if v4 = (0 : Int32) then some ((-1 : Int32)) else jb (m_X_slot p1) (fun v6 => jb (m_XK_of s a p0 v6) (fun v8 => some (v8)))))))
set_option maxRecDepth 100000 in
set_option maxHeartbeats 4000000 in
theorem c_X_known (l : Launch) (s : jS) (a : jB) (p0 : Int32) (p1 : Int32) (r : Int32) (h : m_X_known s a p0 p1 = some r) : JMet l vwCl NsG (.code y_X_known prog_1_method_7_code 3 (some .int) :: TsG) y_X_known rm_X_known [.ref 0, .int p0, .int p1] (wX s a) (fun v w => v = some (.int r) ∧ w = wX s a) := by
  refine J_enter (by decide +kernel) rfl (Nat.le_of_ble_eq_true rfl) ?_
  unfold m_X_known at h
  refine J_eq (ls' := [some (.ref 0), some (.int p0), some (.int p1)]) rfl rfl rfl rfl ?_
  refine J_aload_n d_X_known_0 rfl ?_
  refine J_iload_n d_X_known_1 rfl ?_
  obtain ⟨v2, e1, h⟩ := jb_some h
  refine J_cVi1 d_X_known_2 (c_X_isClass l _ _ _ _ e1) (wX_at0 _ _) rfl ts_30 ts_good rfl rfl ts_4 ts_31 dy_X_isClass (by decide) (Nat.le_of_ble_eq_true rfl) ts_32 ts_33 ?_
  refine J_if_eq (tgt := 16) d_X_known_5 (by decide) (fun c => ?_) (fun c => ?_)
  · have h := j_ifp c h
    refine J_iconst (v := (-1 : Int32)) d_X_known_16 (by decide) ?_
    exact J_iret d_X_known_17 rfl rfl (by cases h; exact ⟨rfl, rfl⟩)
  · have h := j_ifn c h
    refine J_aload_n d_X_known_8 rfl ?_
    refine J_iload_n d_X_known_9 rfl ?_
    obtain ⟨v4, e3, h⟩ := jb_some h
    refine J_cVi1 d_X_known_10 (c_X_isGoal l _ _ _ _ e3) (wX_at0 _ _) rfl ts_34 ts_good rfl rfl ts_4 ts_35 dy_X_isGoal (by decide) (Nat.le_of_ble_eq_true rfl) ts_36 ts_37 ?_
    refine J_if_ne (tgt := 18) d_X_known_13 (by decide) (fun c => ?_) (fun c => ?_)
    · have h := j_ifn c h
      refine J_aload_n d_X_known_18 rfl ?_
      refine J_get (j := 2) (v := .ref 6) d_X_known_19 (wX_at0 _ _) rfl in_0 (by decide) ts_1 rfl ?_
      refine J_iload_n d_X_known_22 rfl ?_
      refine J_iload_n d_X_known_23 rfl ?_
      obtain ⟨v6, e5, h⟩ := jb_some h
      refine J_cSi1 d_X_known_24 (c_X_slot l _ _ _ e5) ts_45 ts_good rfl rfl ts_4 ts_46 dy_X_slot (by decide) (Nat.le_of_ble_eq_true rfl) ts_47 ?_
      obtain ⟨v8, e7, h⟩ := jb_some h
      refine J_cVi2 d_X_known_27 (c_XK_of l _ _ _ _ _ e7) (wX_at6 _ _) rfl ts_130 ts_good rfl rfl ts_11 ts_131 dy_XK_of (by decide) (Nat.le_of_ble_eq_true rfl) ts_132 ts_133 ?_
      exact J_iret d_X_known_30 rfl rfl (by cases h; exact ⟨rfl, rfl⟩)
    · have h := j_ifp c h
      refine J_iconst (v := (-1 : Int32)) d_X_known_16 (by decide) ?_
      exact J_iret d_X_known_17 rfl rfl (by cases h; exact ⟨rfl, rfl⟩)
abbrev rm_XA_firstThatFires : Room := { frames := 2, cells := 0, slots := 0, locals := 41 }
abbrev K_XA_firstThatFires (l : Launch) := JW l vwCl NsG TsG "ClassifySort$Axioms" prog_2_method_9_code 4 (some .int) rm_XA_firstThatFires
def L_XA_firstThatFires_2 (s : jS) (a : jB) (c1 : Int32) (k50 : Unit → Option (Int32)) : Nat → Int32 → Option (Int32)
  | 0, _ => none
  | f + 1, x2 => (if (s 4) ≤ x2 then k50 () else jg (jin x2 40) ((if ((a 2) (x2).toNatClampNeg) = (0 : Int32) then L_XA_firstThatFires_2 s a c1 k50 f ((x2 + (1 : Int32))) else (if (((a 2) (x2).toNatClampNeg) &&& (c1 ^^^ (-1 : Int32))) = (0 : Int32) then jg (jin x2 40) (jb (m_X_has c1 ((a 3) (x2).toNatClampNeg)) (fun v2 => (if v2 = (0 : Int32) then some (x2) else L_XA_firstThatFires_2 s a c1 k50 f ((x2 + (1 : Int32)))))) else L_XA_firstThatFires_2 s a c1 k50 f ((x2 + (1 : Int32)))))))
set_option maxRecDepth 100000 in
set_option maxHeartbeats 4000000 in
theorem JL_XA_firstThatFires_2 (l : Launch) (s : jS) (a : jB) (c1 : Int32) (k50 : Unit → Option (Int32)) (r : Int32) (hk50 : ∀ (_ : Unit) (o2 : Option Value) (o3 : Option Value), k50 () = some r → K_XA_firstThatFires l 50 [some (.ref 1), some (.int c1), o2, o3] [] (wX s a) (fun v w => v = some (.int r) ∧ w = wX s a)) : ∀ (f : Nat), ∀ (x2 : Int32) (o3 : Option Value), L_XA_firstThatFires_2 s a c1 k50 f x2 = some r → K_XA_firstThatFires l 2 [some (.ref 1), some (.int c1), some (.int x2), o3] [] (wX s a) (fun v w => v = some (.int r) ∧ w = wX s a) := by
  intro f
  induction f with
  | zero =>
    intro x2 o3 h
    cases h
  | succ f ih =>
    intro x2 o3 h
    rw [L_XA_firstThatFires_2] at h
    refine J_iload_n d_XA_firstThatFires_2 rfl ?_
    refine J_aload_n d_XA_firstThatFires_3 rfl ?_
    refine J_get (j := 2) (v := .int (s 4)) d_XA_firstThatFires_4 (wX_at1 _ _) rfl in_1 (by decide) ts_39 rfl ?_
    refine J_icmp_ge (tgt := 50) d_XA_firstThatFires_7 (by decide) (fun c => ?_) (fun c => ?_)
    · have h := j_ifp c h
      exact hk50 () _ _ h
    · have h := j_ifn c h
      refine J_aload_n d_XA_firstThatFires_10 rfl ?_
      refine J_get (j := 0) (v := .ref 2) d_XA_firstThatFires_11 (wX_at1 _ _) rfl in_1 (by decide) ts_49 rfl ?_
      refine J_iload_n d_XA_firstThatFires_14 rfl ?_
      obtain ⟨g, h⟩ := jg_some h
      refine J_iald (f := (a 2)) d_XA_firstThatFires_15 (wX_at2 _ _) (jin_in g) ?_
      refine J_istore_n d_XA_firstThatFires_16 (by decide) ?_
      refine J_iload_n d_XA_firstThatFires_17 rfl ?_
      refine J_if_eq (tgt := 44) d_XA_firstThatFires_18 (by decide) (fun c => ?_) (fun c => ?_)
      · have h := j_ifp c h
        refine J_iinc (v := (x2 + (1 : Int32))) d_XA_firstThatFires_44 rfl (by first | rfl | decide) (by decide) ?_
        refine J_goto (tgt := 2) d_XA_firstThatFires_47 (by decide) ?_
        exact ih _ _ h
      · have h := j_ifn c h
        refine J_iload_n d_XA_firstThatFires_21 rfl ?_
        refine J_iload_n d_XA_firstThatFires_22 rfl ?_
        refine J_iconst (v := (-1 : Int32)) d_XA_firstThatFires_23 (by decide) ?_
        refine J_ixor d_XA_firstThatFires_24 ?_
        refine J_iand d_XA_firstThatFires_25 ?_
        refine J_if_ne (tgt := 44) d_XA_firstThatFires_26 (by decide) (fun c => ?_) (fun c => ?_)
        · have h := j_ifn c h
          refine J_iinc (v := (x2 + (1 : Int32))) d_XA_firstThatFires_44 rfl (by first | rfl | decide) (by decide) ?_
          refine J_goto (tgt := 2) d_XA_firstThatFires_47 (by decide) ?_
          exact ih _ _ h
        · have h := j_ifp c h
          refine J_iload_n d_XA_firstThatFires_29 rfl ?_
          refine J_aload_n d_XA_firstThatFires_30 rfl ?_
          refine J_get (j := 1) (v := .ref 3) d_XA_firstThatFires_31 (wX_at1 _ _) rfl in_1 (by decide) ts_50 rfl ?_
          refine J_iload_n d_XA_firstThatFires_34 rfl ?_
          obtain ⟨g, h⟩ := jg_some h
          refine J_iald (f := (a 3)) d_XA_firstThatFires_35 (wX_at3 _ _) (jin_in g) ?_
          obtain ⟨v2, e1, h⟩ := jb_some h
          refine J_cSi2N d_XA_firstThatFires_36 (c_X_has l _ _ _ _ e1) ts_8 ts_good rfl rfl ts_4 ns_4 dy_X_has (by decide) (Nat.le_of_ble_eq_true rfl) ts_9 ?_
          refine J_if_ne (tgt := 44) d_XA_firstThatFires_39 (by decide) (fun c => ?_) (fun c => ?_)
          · have h := j_ifn c h
            refine J_iinc (v := (x2 + (1 : Int32))) d_XA_firstThatFires_44 rfl (by first | rfl | decide) (by decide) ?_
            refine J_goto (tgt := 2) d_XA_firstThatFires_47 (by decide) ?_
            exact ih _ _ h
          · have h := j_ifp c h
            refine J_iload_n d_XA_firstThatFires_42 rfl ?_
            exact J_iret d_XA_firstThatFires_43 rfl rfl (by cases h; exact ⟨rfl, rfl⟩)
def m_XA_firstThatFires (s : jS) (a : jB) (p0 : Int32) : Option (Int32) := L_XA_firstThatFires_2 (s) (a) (p0) (fun _ => some ((-6 : Int32))) jF ((0 : Int32))
set_option maxRecDepth 100000 in
set_option maxHeartbeats 4000000 in
theorem c_XA_firstThatFires (l : Launch) (s : jS) (a : jB) (p0 : Int32) (r : Int32) (h : m_XA_firstThatFires s a p0 = some r) : JMet l vwCl NsG (.code y_XA_firstThatFires prog_2_method_9_code 4 (some .int) :: TsG) y_XA_firstThatFires rm_XA_firstThatFires [.ref 1, .int p0] (wX s a) (fun v w => v = some (.int r) ∧ w = wX s a) := by
  refine J_enter (by decide +kernel) rfl (Nat.le_of_ble_eq_true rfl) ?_
  unfold m_XA_firstThatFires at h
  refine J_eq (ls' := [some (.ref 1), some (.int p0), none, none]) rfl rfl rfl rfl ?_
  refine J_iconst (v := (0 : Int32)) d_XA_firstThatFires_0 (by decide) ?_
  refine J_istore_n d_XA_firstThatFires_1 (by decide) ?_
  refine JL_XA_firstThatFires_2 l _ _ _ _ r (fun _ o3 o4 h => ?_) jF _ _ h
  refine J_bipush (v := (-6 : Int32)) d_XA_firstThatFires_50 (by decide) ?_
  exact J_iret d_XA_firstThatFires_52 rfl rfl (by cases h; exact ⟨rfl, rfl⟩)
abbrev rm_XR_decide : Room := { frames := 3, cells := 0, slots := 0, locals := 64 }
abbrev K_XR_decide (l : Launch) := JW l vwCl NsG TsG "ClassifySort$Reasoner" prog_5_method_5_code 6 (some .int) rm_XR_decide
def L_XR_decide_24 (c3 : Int32) (k125 : jS → jB → Option (Int32 × jS × jB)) : Nat → jS → jB → Int32 → Option (Int32 × jS × jB)
  | 0, _, _, _ => none
  | f + 1, s, a, x4 => (if (20 : Int32) < x4 then k125 (s) (a) else (if ((s 8) &&& c3) = (0 : Int32) then jb (m_XA_firstThatFires s a (s 8)) (fun v6 => (if v6 = (-6 : Int32) then some ((0 : Int32), s, a) else (if (s 7) < (s 6) then jg (jin (s 7) 20) (jb (m_XA_rightOf (upd s 7 ((s 7) + (1 : Int32))) (va_up a 5 (upd (a 5) ((s 7)).toNatClampNeg v6)) v6) (fun v8 => jb (m_X_bit v8) (fun v10 => L_XR_decide_24 c3 k125 f ((upd (upd s 7 ((s 7) + (1 : Int32))) 8 (((upd s 7 ((s 7) + (1 : Int32))) 8) ||| v10))) ((va_up a 5 (upd (a 5) ((s 7)).toNatClampNeg v6))) ((x4 + (1 : Int32)))))) else some ((2 : Int32), s, a)))) else some ((1 : Int32), s, a)))
set_option maxRecDepth 100000 in
set_option maxHeartbeats 4000000 in
theorem JL_XR_decide_24 (l : Launch) (c3 : Int32) (k125 : jS → jB → Option (Int32 × jS × jB)) (r : Int32 × jS × jB) (hk125 : ∀ (s : jS) (a : jB) (o1 : Option Value) (o2 : Option Value) (o4 : Option Value) (o5 : Option Value), k125 s a = some r → K_XR_decide l 125 [some (.ref 4), o1, o2, some (.int c3), o4, o5] [] (wX s a) (fun v w => v = some (.int r.1) ∧ w = wX r.2.1 r.2.2)) : ∀ (f : Nat), ∀ (s : jS) (a : jB) (x4 : Int32) (o1 : Option Value) (o2 : Option Value) (o5 : Option Value), L_XR_decide_24 c3 k125 f s a x4 = some r → K_XR_decide l 24 [some (.ref 4), o1, o2, some (.int c3), some (.int x4), o5] [] (wX s a) (fun v w => v = some (.int r.1) ∧ w = wX r.2.1 r.2.2) := by
  intro f
  induction f with
  | zero =>
    intro s a x4 o1 o2 o5 h
    cases h
  | succ f ih =>
    intro s a x4 o1 o2 o5 h
    rw [L_XR_decide_24] at h
    refine J_iload d_XR_decide_24 rfl ?_
    refine J_bipush (v := (20 : Int32)) d_XR_decide_26 (by decide) ?_
    refine J_icmp_gt (tgt := 125) d_XR_decide_28 (by decide) (fun c => ?_) (fun c => ?_)
    · have h := j_ifp c h
      exact hk125 _ _ _ _ _ _ h
    · have h := j_ifn c h
      refine J_aload_n d_XR_decide_31 rfl ?_
      refine J_get (j := 4) (v := .int (s 8)) d_XR_decide_32 (wX_at4 _ _) rfl in_2 (by decide) ts_134 rfl ?_
      refine J_iload_n d_XR_decide_35 rfl ?_
      refine J_iand d_XR_decide_36 ?_
      refine J_if_eq (tgt := 42) d_XR_decide_37 (by decide) (fun c => ?_) (fun c => ?_)
      · have h := j_ifp c h
        refine J_aload_n d_XR_decide_42 rfl ?_
        refine J_get (j := 0) (v := .ref 1) d_XR_decide_43 (wX_at4 _ _) rfl in_2 (by decide) ts_136 rfl ?_
        refine J_aload_n d_XR_decide_46 rfl ?_
        refine J_get (j := 4) (v := .int (s 8)) d_XR_decide_47 (wX_at4 _ _) rfl in_2 (by decide) ts_134 rfl ?_
        obtain ⟨v6, e5, h⟩ := jb_some h
        refine J_cVi1 d_XR_decide_50 (c_XA_firstThatFires l _ _ _ _ e5) (wX_at1 _ _) rfl ts_137 ts_good rfl rfl ts_41 ts_138 dy_XA_firstThatFires (by decide) (Nat.le_of_ble_eq_true rfl) ts_139 ts_140 ?_
        refine J_istore d_XR_decide_53 (by decide) ?_
        refine J_iload d_XR_decide_55 rfl ?_
        refine J_bipush (v := (-6 : Int32)) d_XR_decide_57 (by decide) ?_
        refine J_icmp_ne (tgt := 64) d_XR_decide_59 (by decide) (fun c => ?_) (fun c => ?_)
        · have h := j_ifn c h
          refine J_aload_n d_XR_decide_64 rfl ?_
          refine J_get (j := 3) (v := .int (s 7)) d_XR_decide_65 (wX_at4 _ _) rfl in_2 (by decide) ts_135 rfl ?_
          refine J_aload_n d_XR_decide_68 rfl ?_
          refine J_get (j := 2) (v := .int (s 6)) d_XR_decide_69 (wX_at4 _ _) rfl in_2 (by decide) ts_120 rfl ?_
          refine J_icmp_lt (tgt := 77) d_XR_decide_72 (by decide) (fun c => ?_) (fun c => ?_)
          · have h := j_ifp c h
            refine J_aload_n d_XR_decide_77 rfl ?_
            refine J_get (j := 1) (v := .ref 5) d_XR_decide_78 (wX_at4 _ _) rfl in_2 (by decide) ts_141 rfl ?_
            refine J_aload_n d_XR_decide_81 rfl ?_
            refine J_get (j := 3) (v := .int (s 7)) d_XR_decide_82 (wX_at4 _ _) rfl in_2 (by decide) ts_135 rfl ?_
            refine J_iload d_XR_decide_85 rfl ?_
            obtain ⟨g, h⟩ := jg_some h
            refine J_iast (f := (a 5)) d_XR_decide_87 (wX_at5 _ _) (jin_in g) ?_
            refine J_eq (ws' := wX s (va_up a 5 (upd (a 5) ((s 7)).toNatClampNeg v6))) rfl rfl rfl (wX_ast5 _ _ _) ?_
            refine J_aload_n d_XR_decide_88 rfl ?_
            refine J_dup d_XR_decide_89 rfl ?_
            refine J_get (j := 3) (v := .int (s 7)) d_XR_decide_90 (wX_at4 _ _) rfl in_2 (by decide) ts_135 rfl ?_
            refine J_iconst (v := (1 : Int32)) d_XR_decide_93 (by decide) ?_
            refine J_iadd d_XR_decide_94 ?_
            refine J_put (j := 3) d_XR_decide_95 (wX_at4 _ _) rfl in_2 ty_XR tyok_XR nok_XR (by decide) ts_135 rfl (tyok_XR 3 (by decide)) rfl rfl (Nat.le_of_ble_eq_true rfl) ?_
            refine J_eq rfl rfl rfl (wX_put7 _ _ _) ?_
            refine J_aload_n d_XR_decide_98 rfl ?_
            refine J_dup d_XR_decide_99 rfl ?_
            refine J_get (j := 4) (v := .int ((upd s 7 ((s 7) + (1 : Int32))) 8)) d_XR_decide_100 (wX_at4 _ _) rfl in_2 (by decide) ts_134 rfl ?_
            refine J_aload_n d_XR_decide_103 rfl ?_
            refine J_get (j := 0) (v := .ref 1) d_XR_decide_104 (wX_at4 _ _) rfl in_2 (by decide) ts_136 rfl ?_
            refine J_iload d_XR_decide_107 rfl ?_
            obtain ⟨v8, e7, h⟩ := jb_some h
            refine J_cVi1 d_XR_decide_109 (c_XA_rightOf l _ _ _ _ e7) (wX_at1 _ _) rfl ts_80 ts_good rfl rfl ts_41 ts_142 dy_XA_rightOf (by decide) (Nat.le_of_ble_eq_true rfl) ts_82 ts_83 ?_
            obtain ⟨v10, e9, h⟩ := jb_some h
            refine J_cSi1N d_XR_decide_112 (c_X_bit l _ _ _ e9) ts_3 ts_good rfl rfl ts_4 ns_3 dy_X_bit (by decide) (Nat.le_of_ble_eq_true rfl) ts_5 ?_
            refine J_ior d_XR_decide_115 ?_
            refine J_put (j := 4) d_XR_decide_116 (wX_at4 _ _) rfl in_2 ty_XR tyok_XR nok_XR (by decide) ts_134 rfl (tyok_XR 4 (by decide)) rfl rfl (Nat.le_of_ble_eq_true rfl) ?_
            refine J_eq rfl rfl rfl (wX_put8 _ _ _) ?_
            refine J_iinc (v := (x4 + (1 : Int32))) d_XR_decide_119 rfl (by first | rfl | decide) (by decide) ?_
            refine J_goto (tgt := 24) d_XR_decide_122 (by decide) ?_
            exact ih _ _ _ _ _ _ h
          · have h := j_ifn c h
            refine J_iconst (v := (2 : Int32)) d_XR_decide_75 (by decide) ?_
            exact J_iret d_XR_decide_76 rfl rfl (by cases h; exact ⟨rfl, rfl⟩)
        · have h := j_ifp c h
          refine J_iconst (v := (0 : Int32)) d_XR_decide_62 (by decide) ?_
          exact J_iret d_XR_decide_63 rfl rfl (by cases h; exact ⟨rfl, rfl⟩)
      · have h := j_ifn c h
        refine J_iconst (v := (1 : Int32)) d_XR_decide_40 (by decide) ?_
        exact J_iret d_XR_decide_41 rfl rfl (by cases h; exact ⟨rfl, rfl⟩)
def m_XR_decide (s : jS) (a : jB) (p0 : Int32) (p1 : Int32) : Option (Int32 × jS × jB) := jb (m_X_bit p1) (fun v2 => jb (m_X_bit (20 : Int32)) (fun v4 => L_XR_decide_24 ((v2 ||| v4)) (fun s11 a12 => some ((2 : Int32), s11, a12)) jF ((upd (upd s 8 p0) 7 (0 : Int32))) (a) ((0 : Int32))))
set_option maxRecDepth 100000 in
set_option maxHeartbeats 4000000 in
theorem c_XR_decide (l : Launch) (s : jS) (a : jB) (p0 : Int32) (p1 : Int32) (r : Int32 × jS × jB) (h : m_XR_decide s a p0 p1 = some r) : JMet l vwCl NsG (.code y_XR_decide prog_5_method_5_code 6 (some .int) :: TsG) y_XR_decide rm_XR_decide [.ref 4, .int p0, .int p1] (wX s a) (fun v w => v = some (.int r.1) ∧ w = wX r.2.1 r.2.2) := by
  refine J_enter (by decide +kernel) rfl (Nat.le_of_ble_eq_true rfl) ?_
  unfold m_XR_decide at h
  refine J_eq (ls' := [some (.ref 4), some (.int p0), some (.int p1), none, none, none]) rfl rfl rfl rfl ?_
  refine J_iload_n d_XR_decide_0 rfl ?_
  obtain ⟨v2, e1, h⟩ := jb_some h
  refine J_cSi1N d_XR_decide_1 (c_X_bit l _ _ _ e1) ts_3 ts_good rfl rfl ts_4 ns_3 dy_X_bit (by decide) (Nat.le_of_ble_eq_true rfl) ts_5 ?_
  refine J_bipush (v := (20 : Int32)) d_XR_decide_4 (by decide) ?_
  obtain ⟨v4, e3, h⟩ := jb_some h
  refine J_cSi1N d_XR_decide_6 (c_X_bit l _ _ _ e3) ts_3 ts_good rfl rfl ts_4 ns_3 dy_X_bit (by decide) (Nat.le_of_ble_eq_true rfl) ts_5 ?_
  refine J_ior d_XR_decide_9 ?_
  refine J_istore_n d_XR_decide_10 (by decide) ?_
  refine J_aload_n d_XR_decide_11 rfl ?_
  refine J_iload_n d_XR_decide_12 rfl ?_
  refine J_put (j := 4) d_XR_decide_13 (wX_at4 _ _) rfl in_2 ty_XR tyok_XR nok_XR (by decide) ts_134 rfl (tyok_XR 4 (by decide)) rfl rfl (Nat.le_of_ble_eq_true rfl) ?_
  refine J_eq rfl rfl rfl (wX_put8 _ _ _) ?_
  refine J_aload_n d_XR_decide_16 rfl ?_
  refine J_iconst (v := (0 : Int32)) d_XR_decide_17 (by decide) ?_
  refine J_put (j := 3) d_XR_decide_18 (wX_at4 _ _) rfl in_2 ty_XR tyok_XR nok_XR (by decide) ts_135 rfl (tyok_XR 3 (by decide)) rfl rfl (Nat.le_of_ble_eq_true rfl) ?_
  refine J_eq rfl rfl rfl (wX_put7 _ _ _) ?_
  refine J_iconst (v := (0 : Int32)) d_XR_decide_21 (by decide) ?_
  refine J_istore d_XR_decide_22 (by decide) ?_
  refine JL_XR_decide_24 l _ _ r (fun s11 a12 o13 o14 o15 o16 h => ?_) jF _ _ _ _ _ _ h
  refine J_iconst (v := (2 : Int32)) d_XR_decide_125 (by decide) ?_
  exact J_iret d_XR_decide_126 rfl rfl (by cases h; exact ⟨rfl, rfl⟩)
abbrev rm_X_ask : Room := { frames := 4, cells := 0, slots := 0, locals := 89 }
abbrev K_X_ask (l : Launch) := JW l vwCl NsG TsG "ClassifySort" prog_1_method_8_code 3 (some .int) rm_X_ask
def m_X_ask (s : jS) (a : jB) (p0 : Int32) (p1 : Int32) : Option (Int32 × jS × jB) := jb (m_X_isClass s a p0) (fun v2 => (if v2 = (0 : Int32) then some ((-1 : Int32), s, a) else jb (m_X_isGoal s a p1) (fun v4 => (if v4 = (0 : Int32) then some ((-1 : Int32), s, a) else jb (m_X_bit p0) (fun v6 => jb (m_X_slot p1) (fun v8 => jb3 (m_XR_decide s a v6 v8) (fun v12 s10 a11 => some (v12, s10, a11))))))))
set_option maxRecDepth 100000 in
set_option maxHeartbeats 4000000 in
theorem c_X_ask (l : Launch) (s : jS) (a : jB) (p0 : Int32) (p1 : Int32) (r : Int32 × jS × jB) (h : m_X_ask s a p0 p1 = some r) : JMet l vwCl NsG (.code y_X_ask prog_1_method_8_code 3 (some .int) :: TsG) y_X_ask rm_X_ask [.ref 0, .int p0, .int p1] (wX s a) (fun v w => v = some (.int r.1) ∧ w = wX r.2.1 r.2.2) := by
  refine J_enter (by decide +kernel) rfl (Nat.le_of_ble_eq_true rfl) ?_
  unfold m_X_ask at h
  refine J_eq (ls' := [some (.ref 0), some (.int p0), some (.int p1)]) rfl rfl rfl rfl ?_
  refine J_aload_n d_X_ask_0 rfl ?_
  refine J_iload_n d_X_ask_1 rfl ?_
  obtain ⟨v2, e1, h⟩ := jb_some h
  refine J_cVi1 d_X_ask_2 (c_X_isClass l _ _ _ _ e1) (wX_at0 _ _) rfl ts_30 ts_good rfl rfl ts_4 ts_31 dy_X_isClass (by decide) (Nat.le_of_ble_eq_true rfl) ts_32 ts_33 ?_
  refine J_if_eq (tgt := 16) d_X_ask_5 (by decide) (fun c => ?_) (fun c => ?_)
  · have h := j_ifp c h
    refine J_iconst (v := (-1 : Int32)) d_X_ask_16 (by decide) ?_
    exact J_iret d_X_ask_17 rfl rfl (by cases h; exact ⟨rfl, rfl⟩)
  · have h := j_ifn c h
    refine J_aload_n d_X_ask_8 rfl ?_
    refine J_iload_n d_X_ask_9 rfl ?_
    obtain ⟨v4, e3, h⟩ := jb_some h
    refine J_cVi1 d_X_ask_10 (c_X_isGoal l _ _ _ _ e3) (wX_at0 _ _) rfl ts_34 ts_good rfl rfl ts_4 ts_35 dy_X_isGoal (by decide) (Nat.le_of_ble_eq_true rfl) ts_36 ts_37 ?_
    refine J_if_ne (tgt := 18) d_X_ask_13 (by decide) (fun c => ?_) (fun c => ?_)
    · have h := j_ifn c h
      refine J_aload_n d_X_ask_18 rfl ?_
      refine J_get (j := 1) (v := .ref 4) d_X_ask_19 (wX_at0 _ _) rfl in_0 (by decide) ts_112 rfl ?_
      refine J_iload_n d_X_ask_22 rfl ?_
      obtain ⟨v6, e5, h⟩ := jb_some h
      refine J_cSi1 d_X_ask_23 (c_X_bit l _ _ _ e5) ts_3 ts_good rfl rfl ts_4 ts_7 dy_X_bit (by decide) (Nat.le_of_ble_eq_true rfl) ts_5 ?_
      refine J_iload_n d_X_ask_26 rfl ?_
      obtain ⟨v8, e7, h⟩ := jb_some h
      refine J_cSi1 d_X_ask_27 (c_X_slot l _ _ _ e7) ts_45 ts_good rfl rfl ts_4 ts_46 dy_X_slot (by decide) (Nat.le_of_ble_eq_true rfl) ts_47 ?_
      obtain ⟨v12, s10, a11, e9, h⟩ := jb3_some h
      refine J_cVi2 d_X_ask_30 (c_XR_decide l _ _ _ _ _ e9) (wX_at4 _ _) rfl ts_143 ts_good rfl rfl ts_122 ts_144 dy_XR_decide (by decide) (Nat.le_of_ble_eq_true rfl) ts_145 ts_146 ?_
      exact J_iret d_X_ask_33 rfl rfl (by cases h; exact ⟨rfl, rfl⟩)
    · have h := j_ifp c h
      refine J_iconst (v := (-1 : Int32)) d_X_ask_16 (by decide) ?_
      exact J_iret d_X_ask_17 rfl rfl (by cases h; exact ⟨rfl, rfl⟩)
abbrev rm_XK_learn : Room := { frames := 4, cells := 0, slots := 0, locals := 86 }
abbrev K_XK_learn (l : Launch) := JW l vwCl NsG TsG "ClassifySort$Knowledge" prog_3_method_10_code 4 none rm_XK_learn
def m_XK_learn (s : jS) (a : jB) (p0 : Int32) (p1 : Int32) (p2 : Int32) : Option (jS × jB) := (if p2 = (1 : Int32) then jb2 (m_XK_tellYes s a p0 p1) (fun s12 a13 => jb2 (m_XK_close s12 a13) (fun s15 a16 => some (s15, a16))) else (if p2 = (0 : Int32) then jg (jin p0 21) (jb (m_X_bit p1) (fun v7 => jg (jin p0 21) (jb2 (m_XK_close s (va_up a 9 (upd (a 9) (p0).toNatClampNeg (((a 9) (p0).toNatClampNeg) ||| v7)))) (fun s9 a10 => some (s9, a10))))) else jg (jin p0 21) (jb (m_X_bit p1) (fun v2 => jg (jin p0 21) (jb2 (m_XK_close s (va_up a 10 (upd (a 10) (p0).toNatClampNeg (((a 10) (p0).toNatClampNeg) ||| v2)))) (fun s4 a5 => some (s4, a5)))))))
set_option maxRecDepth 100000 in
set_option maxHeartbeats 4000000 in
theorem c_XK_learn (l : Launch) (s : jS) (a : jB) (p0 : Int32) (p1 : Int32) (p2 : Int32) (r : jS × jB) (h : m_XK_learn s a p0 p1 p2 = some r) : JMet l vwCl NsG (.code y_XK_learn prog_3_method_10_code 4 none :: TsG) y_XK_learn rm_XK_learn [.ref 6, .int p0, .int p1, .int p2] (wX s a) (fun v w => v = none ∧ w = wX r.1 r.2) := by
  refine J_enter (by decide +kernel) rfl (Nat.le_of_ble_eq_true rfl) ?_
  unfold m_XK_learn at h
  refine J_eq (ls' := [some (.ref 6), some (.int p0), some (.int p1), some (.int p2)]) rfl rfl rfl rfl ?_
  refine J_iload_n d_XK_learn_0 rfl ?_
  refine J_iconst (v := (1 : Int32)) d_XK_learn_1 (by decide) ?_
  refine J_icmp_ne (tgt := 14) d_XK_learn_2 (by decide) (fun c => ?_) (fun c => ?_)
  · have h := j_ifn c h
    refine J_iload_n d_XK_learn_14 rfl ?_
    refine J_if_ne (tgt := 34) d_XK_learn_15 (by decide) (fun c => ?_) (fun c => ?_)
    · have h := j_ifn c h
      refine J_aload_n d_XK_learn_34 rfl ?_
      refine J_get (j := 3) (v := .ref 10) d_XK_learn_35 (wX_at6 _ _) rfl in_3 (by decide) ts_19 rfl ?_
      refine J_iload_n d_XK_learn_38 rfl ?_
      refine J_dup2 d_XK_learn_39 rfl rfl ?_
      obtain ⟨g, h⟩ := jg_some h
      refine J_iald (f := (a 10)) d_XK_learn_40 (wX_at10 _ _) (jin_in g) ?_
      refine J_iload_n d_XK_learn_41 rfl ?_
      obtain ⟨v2, e1, h⟩ := jb_some h
      refine J_cSi1N d_XK_learn_42 (c_X_bit l _ _ _ e1) ts_3 ts_good rfl rfl ts_4 ns_0 dy_X_bit (by decide) (Nat.le_of_ble_eq_true rfl) ts_5 ?_
      refine J_ior d_XK_learn_45 ?_
      obtain ⟨g, h⟩ := jg_some h
      refine J_iast (f := (a 10)) d_XK_learn_46 (wX_at10 _ _) (jin_in g) ?_
      refine J_eq (ws' := wX s (va_up a 10 (upd (a 10) (p0).toNatClampNeg (((a 10) (p0).toNatClampNeg) ||| v2)))) rfl rfl rfl (wX_ast10 _ _ _) ?_
      refine J_aload_n d_XK_learn_47 rfl ?_
      obtain ⟨s4, a5, e3, h⟩ := jb2_some h
      refine J_cVv0 d_XK_learn_48 (c_XK_close l _ _ _ e3) (wX_at6 _ _) rfl ts_20 ts_good rfl rfl ts_11 ts_21 dy_XK_close (by decide) (Nat.le_of_ble_eq_true rfl) ts_22 ts_23 ?_
      exact J_vret d_XK_learn_51 rfl (by cases h; exact ⟨rfl, rfl⟩)
    · have h := j_ifp c h
      refine J_aload_n d_XK_learn_18 rfl ?_
      refine J_get (j := 2) (v := .ref 9) d_XK_learn_19 (wX_at6 _ _) rfl in_3 (by decide) ts_15 rfl ?_
      refine J_iload_n d_XK_learn_22 rfl ?_
      refine J_dup2 d_XK_learn_23 rfl rfl ?_
      obtain ⟨g, h⟩ := jg_some h
      refine J_iald (f := (a 9)) d_XK_learn_24 (wX_at9 _ _) (jin_in g) ?_
      refine J_iload_n d_XK_learn_25 rfl ?_
      obtain ⟨v7, e6, h⟩ := jb_some h
      refine J_cSi1N d_XK_learn_26 (c_X_bit l _ _ _ e6) ts_3 ts_good rfl rfl ts_4 ns_0 dy_X_bit (by decide) (Nat.le_of_ble_eq_true rfl) ts_5 ?_
      refine J_ior d_XK_learn_29 ?_
      obtain ⟨g, h⟩ := jg_some h
      refine J_iast (f := (a 9)) d_XK_learn_30 (wX_at9 _ _) (jin_in g) ?_
      refine J_eq (ws' := wX s (va_up a 9 (upd (a 9) (p0).toNatClampNeg (((a 9) (p0).toNatClampNeg) ||| v7)))) rfl rfl rfl (wX_ast9 _ _ _) ?_
      refine J_goto (tgt := 47) d_XK_learn_31 (by decide) ?_
      refine J_aload_n d_XK_learn_47 rfl ?_
      obtain ⟨s9, a10, e8, h⟩ := jb2_some h
      refine J_cVv0 d_XK_learn_48 (c_XK_close l _ _ _ e8) (wX_at6 _ _) rfl ts_20 ts_good rfl rfl ts_11 ts_21 dy_XK_close (by decide) (Nat.le_of_ble_eq_true rfl) ts_22 ts_23 ?_
      exact J_vret d_XK_learn_51 rfl (by cases h; exact ⟨rfl, rfl⟩)
  · have h := j_ifp c h
    refine J_aload_n d_XK_learn_5 rfl ?_
    refine J_iload_n d_XK_learn_6 rfl ?_
    refine J_iload_n d_XK_learn_7 rfl ?_
    obtain ⟨s12, a13, e11, h⟩ := jb2_some h
    refine J_cVv2 d_XK_learn_8 (c_XK_tellYes l _ _ _ _ _ e11) (wX_at6 _ _) rfl ts_10 ts_good rfl rfl ts_11 ts_12 dy_XK_tellYes (by decide) (Nat.le_of_ble_eq_true rfl) ts_13 ts_14 ?_
    refine J_goto (tgt := 47) d_XK_learn_11 (by decide) ?_
    refine J_aload_n d_XK_learn_47 rfl ?_
    obtain ⟨s15, a16, e14, h⟩ := jb2_some h
    refine J_cVv0 d_XK_learn_48 (c_XK_close l _ _ _ e14) (wX_at6 _ _) rfl ts_20 ts_good rfl rfl ts_11 ts_21 dy_XK_close (by decide) (Nat.le_of_ble_eq_true rfl) ts_22 ts_23 ?_
    exact J_vret d_XK_learn_51 rfl (by cases h; exact ⟨rfl, rfl⟩)
abbrev rm_XO_answer : Room := { frames := 5, cells := 0, slots := 0, locals := 109 }
abbrev K_XO_answer (l : Launch) := JW l vwCl NsG TsG "ClassifySort$Order" prog_4_method_6_code 3 (some .int) rm_XO_answer
def m_XO_answer (s : jS) (a : jB) (p0 : Int32) (p1 : Int32) : Option (Int32 × jS × jB) := jb (m_XK_of s a p0 p1) (fun v2 => (if v2 = (3 : Int32) then jb (m_X_bit p0) (fun v6 => jb3 (m_XR_decide (upd s 11 ((s 11) + (1 : Int32))) a v6 p1) (fun v10 s8 a9 => jb2 (m_XK_learn s8 a9 p0 p1 v10) (fun s12 a13 => jb (m_XK_of s12 a13 p0 p1) (fun v15 => some (v15, s12, a13))))) else jb (m_XK_of s a p0 p1) (fun v4 => some (v4, s, a))))
set_option maxRecDepth 100000 in
set_option maxHeartbeats 4000000 in
theorem c_XO_answer (l : Launch) (s : jS) (a : jB) (p0 : Int32) (p1 : Int32) (r : Int32 × jS × jB) (h : m_XO_answer s a p0 p1 = some r) : JMet l vwCl NsG (.code y_XO_answer prog_4_method_6_code 3 (some .int) :: TsG) y_XO_answer rm_XO_answer [.ref 11, .int p0, .int p1] (wX s a) (fun v w => v = some (.int r.1) ∧ w = wX r.2.1 r.2.2) := by
  refine J_enter (by decide +kernel) rfl (Nat.le_of_ble_eq_true rfl) ?_
  unfold m_XO_answer at h
  refine J_eq (ls' := [some (.ref 11), some (.int p0), some (.int p1)]) rfl rfl rfl rfl ?_
  refine J_aload_n d_XO_answer_0 rfl ?_
  refine J_get (j := 0) (v := .ref 6) d_XO_answer_1 (wX_at11 _ _) rfl in_4 (by decide) ts_151 rfl ?_
  refine J_iload_n d_XO_answer_4 rfl ?_
  refine J_iload_n d_XO_answer_5 rfl ?_
  obtain ⟨v2, e1, h⟩ := jb_some h
  refine J_cVi2 d_XO_answer_6 (c_XK_of l _ _ _ _ _ e1) (wX_at6 _ _) rfl ts_130 ts_good rfl rfl ts_11 ts_152 dy_XK_of (by decide) (Nat.le_of_ble_eq_true rfl) ts_132 ts_133 ?_
  refine J_iconst (v := (3 : Int32)) d_XO_answer_9 (by decide) ?_
  refine J_icmp_ne (tgt := 44) d_XO_answer_10 (by decide) (fun c => ?_) (fun c => ?_)
  · have h := j_ifn c h
    refine J_aload_n d_XO_answer_44 rfl ?_
    refine J_get (j := 0) (v := .ref 6) d_XO_answer_45 (wX_at11 _ _) rfl in_4 (by decide) ts_151 rfl ?_
    refine J_iload_n d_XO_answer_48 rfl ?_
    refine J_iload_n d_XO_answer_49 rfl ?_
    obtain ⟨v4, e3, h⟩ := jb_some h
    refine J_cVi2 d_XO_answer_50 (c_XK_of l _ _ _ _ _ e3) (wX_at6 _ _) rfl ts_130 ts_good rfl rfl ts_11 ts_152 dy_XK_of (by decide) (Nat.le_of_ble_eq_true rfl) ts_132 ts_133 ?_
    exact J_iret d_XO_answer_53 rfl rfl (by cases h; exact ⟨rfl, rfl⟩)
  · have h := j_ifp c h
    refine J_aload_n d_XO_answer_13 rfl ?_
    refine J_dup d_XO_answer_14 rfl ?_
    refine J_get (j := 4) (v := .int (s 11)) d_XO_answer_15 (wX_at11 _ _) rfl in_4 (by decide) ts_150 rfl ?_
    refine J_iconst (v := (1 : Int32)) d_XO_answer_18 (by decide) ?_
    refine J_iadd d_XO_answer_19 ?_
    refine J_put (j := 4) d_XO_answer_20 (wX_at11 _ _) rfl in_4 ty_XO tyok_XO nok_XO (by decide) ts_150 rfl (tyok_XO 4 (by decide)) rfl rfl (Nat.le_of_ble_eq_true rfl) ?_
    refine J_eq rfl rfl rfl (wX_put11 _ _ _) ?_
    refine J_aload_n d_XO_answer_23 rfl ?_
    refine J_get (j := 0) (v := .ref 6) d_XO_answer_24 (wX_at11 _ _) rfl in_4 (by decide) ts_151 rfl ?_
    refine J_iload_n d_XO_answer_27 rfl ?_
    refine J_iload_n d_XO_answer_28 rfl ?_
    refine J_aload_n d_XO_answer_29 rfl ?_
    refine J_get (j := 1) (v := .ref 4) d_XO_answer_30 (wX_at11 _ _) rfl in_4 (by decide) ts_153 rfl ?_
    refine J_iload_n d_XO_answer_33 rfl ?_
    obtain ⟨v6, e5, h⟩ := jb_some h
    refine J_cSi1N d_XO_answer_34 (c_X_bit l _ _ _ e5) ts_3 ts_good rfl rfl ts_4 ns_5 dy_X_bit (by decide) (Nat.le_of_ble_eq_true rfl) ts_5 ?_
    refine J_iload_n d_XO_answer_37 rfl ?_
    obtain ⟨v10, s8, a9, e7, h⟩ := jb3_some h
    refine J_cVi2 d_XO_answer_38 (c_XR_decide l _ _ _ _ _ e7) (wX_at4 _ _) rfl ts_143 ts_good rfl rfl ts_122 ts_154 dy_XR_decide (by decide) (Nat.le_of_ble_eq_true rfl) ts_145 ts_146 ?_
    obtain ⟨s12, a13, e11, h⟩ := jb2_some h
    refine J_cVv3 d_XO_answer_41 (c_XK_learn l _ _ _ _ _ _ e11) (wX_at6 _ _) rfl ts_155 ts_good rfl rfl ts_11 ts_156 dy_XK_learn (by decide) (Nat.le_of_ble_eq_true rfl) ts_157 ts_158 ?_
    refine J_aload_n d_XO_answer_44 rfl ?_
    refine J_get (j := 0) (v := .ref 6) d_XO_answer_45 (wX_at11 _ _) rfl in_4 (by decide) ts_151 rfl ?_
    refine J_iload_n d_XO_answer_48 rfl ?_
    refine J_iload_n d_XO_answer_49 rfl ?_
    obtain ⟨v15, e14, h⟩ := jb_some h
    refine J_cVi2 d_XO_answer_50 (c_XK_of l _ _ _ _ _ e14) (wX_at6 _ _) rfl ts_130 ts_good rfl rfl ts_11 ts_152 dy_XK_of (by decide) (Nat.le_of_ble_eq_true rfl) ts_132 ts_133 ?_
    exact J_iret d_XO_answer_53 rfl rfl (by cases h; exact ⟨rfl, rfl⟩)
abbrev rm_XK_allAbove : Room := { frames := 0, cells := 0, slots := 0, locals := 0 }
abbrev K_XK_allAbove (l : Launch) := JW l vwCl NsG TsG "ClassifySort$Knowledge" prog_3_method_4_code 2 (some .int) rm_XK_allAbove
def m_XK_allAbove (s : jS) (a : jB) (p0 : Int32) : Option (Int32) := jg (jin p0 21) (some (((a 7) (p0).toNatClampNeg)))
set_option maxRecDepth 100000 in
set_option maxHeartbeats 4000000 in
theorem c_XK_allAbove (l : Launch) (s : jS) (a : jB) (p0 : Int32) (r : Int32) (h : m_XK_allAbove s a p0 = some r) : JMet l vwCl NsG (.code y_XK_allAbove prog_3_method_4_code 2 (some .int) :: TsG) y_XK_allAbove rm_XK_allAbove [.ref 6, .int p0] (wX s a) (fun v w => v = some (.int r) ∧ w = wX s a) := by
  refine J_enter (by decide +kernel) rfl (Nat.le_of_ble_eq_true rfl) ?_
  unfold m_XK_allAbove at h
  refine J_eq (ls' := [some (.ref 6), some (.int p0)]) rfl rfl rfl rfl ?_
  refine J_aload_n d_XK_allAbove_0 rfl ?_
  refine J_get (j := 0) (v := .ref 7) d_XK_allAbove_1 (wX_at6 _ _) rfl in_3 (by decide) ts_2 rfl ?_
  refine J_iload_n d_XK_allAbove_4 rfl ?_
  obtain ⟨g, h⟩ := jg_some h
  refine J_iald (f := (a 7)) d_XK_allAbove_5 (wX_at7 _ _) (jin_in g) ?_
  exact J_iret d_XK_allAbove_6 rfl rfl (by cases h; exact ⟨rfl, rfl⟩)
abbrev rm_XK_strictlyAbove : Room := { frames := 0, cells := 0, slots := 0, locals := 0 }
abbrev K_XK_strictlyAbove (l : Launch) := JW l vwCl NsG TsG "ClassifySort$Knowledge" prog_3_method_6_code 2 (some .int) rm_XK_strictlyAbove
def m_XK_strictlyAbove (s : jS) (a : jB) (p0 : Int32) : Option (Int32) := jg (jin p0 21) (jg (jin p0 21) (some ((((a 7) (p0).toNatClampNeg) &&& (((a 8) (p0).toNatClampNeg) ^^^ (-1 : Int32))))))
set_option maxRecDepth 100000 in
set_option maxHeartbeats 4000000 in
theorem c_XK_strictlyAbove (l : Launch) (s : jS) (a : jB) (p0 : Int32) (r : Int32) (h : m_XK_strictlyAbove s a p0 = some r) : JMet l vwCl NsG (.code y_XK_strictlyAbove prog_3_method_6_code 2 (some .int) :: TsG) y_XK_strictlyAbove rm_XK_strictlyAbove [.ref 6, .int p0] (wX s a) (fun v w => v = some (.int r) ∧ w = wX s a) := by
  refine J_enter (by decide +kernel) rfl (Nat.le_of_ble_eq_true rfl) ?_
  unfold m_XK_strictlyAbove at h
  refine J_eq (ls' := [some (.ref 6), some (.int p0)]) rfl rfl rfl rfl ?_
  refine J_aload_n d_XK_strictlyAbove_0 rfl ?_
  refine J_get (j := 0) (v := .ref 7) d_XK_strictlyAbove_1 (wX_at6 _ _) rfl in_3 (by decide) ts_2 rfl ?_
  refine J_iload_n d_XK_strictlyAbove_4 rfl ?_
  obtain ⟨g, h⟩ := jg_some h
  refine J_iald (f := (a 7)) d_XK_strictlyAbove_5 (wX_at7 _ _) (jin_in g) ?_
  refine J_aload_n d_XK_strictlyAbove_6 rfl ?_
  refine J_get (j := 1) (v := .ref 8) d_XK_strictlyAbove_7 (wX_at6 _ _) rfl in_3 (by decide) ts_6 rfl ?_
  refine J_iload_n d_XK_strictlyAbove_10 rfl ?_
  obtain ⟨g, h⟩ := jg_some h
  refine J_iald (f := (a 8)) d_XK_strictlyAbove_11 (wX_at8 _ _) (jin_in g) ?_
  refine J_iconst (v := (-1 : Int32)) d_XK_strictlyAbove_12 (by decide) ?_
  refine J_ixor d_XK_strictlyAbove_13 ?_
  refine J_iand d_XK_strictlyAbove_14 ?_
  exact J_iret d_XK_strictlyAbove_15 rfl rfl (by cases h; exact ⟨rfl, rfl⟩)
abbrev rm_XO_nextDown : Room := { frames := 2, cells := 0, slots := 0, locals := 41 }
abbrev K_XO_nextDown (l : Launch) := JW l vwCl NsG TsG "ClassifySort$Order" prog_4_method_9_code 5 (some .int) rm_XO_nextDown
def L_XO_nextDown_12 (s : jS) (a : jB) (c2 : Int32) (c3 : Int32) (k58 : Unit → Option (Int32)) : Nat → Int32 → Option (Int32)
  | 0, _ => none
  | f + 1, x4 => (if (20 : Int32) ≤ x4 then k58 () else jb (m_X_has c2 x4) (fun v4 => (if v4 = (0 : Int32) then L_XO_nextDown_12 s a c2 c3 k58 f ((x4 + (1 : Int32))) else jb (m_XK_strictlyAbove s a x4) (fun v6 => (if ((v6 &&& (s 9)) &&& (c3 ^^^ (-1 : Int32))) = (0 : Int32) then some (x4) else L_XO_nextDown_12 s a c2 c3 k58 f ((x4 + (1 : Int32))))))))
set_option maxRecDepth 100000 in
set_option maxHeartbeats 4000000 in
theorem JL_XO_nextDown_12 (l : Launch) (s : jS) (a : jB) (c2 : Int32) (c3 : Int32) (k58 : Unit → Option (Int32)) (r : Int32) (hk58 : ∀ (_ : Unit) (o1 : Option Value) (o4 : Option Value), k58 () = some r → K_XO_nextDown l 58 [some (.ref 11), o1, some (.int c2), some (.int c3), o4] [] (wX s a) (fun v w => v = some (.int r) ∧ w = wX s a)) : ∀ (f : Nat), ∀ (x4 : Int32) (o1 : Option Value), L_XO_nextDown_12 s a c2 c3 k58 f x4 = some r → K_XO_nextDown l 12 [some (.ref 11), o1, some (.int c2), some (.int c3), some (.int x4)] [] (wX s a) (fun v w => v = some (.int r) ∧ w = wX s a) := by
  intro f
  induction f with
  | zero =>
    intro x4 o1 h
    cases h
  | succ f ih =>
    intro x4 o1 h
    rw [L_XO_nextDown_12] at h
    refine J_iload d_XO_nextDown_12 rfl ?_
    refine J_bipush (v := (20 : Int32)) d_XO_nextDown_14 (by decide) ?_
    refine J_icmp_ge (tgt := 58) d_XO_nextDown_16 (by decide) (fun c => ?_) (fun c => ?_)
    · have h := j_ifp c h
      exact hk58 () _ _ h
    · have h := j_ifn c h
      refine J_iload_n d_XO_nextDown_19 rfl ?_
      refine J_iload d_XO_nextDown_20 rfl ?_
      obtain ⟨v4, e3, h⟩ := jb_some h
      refine J_cSi2N d_XO_nextDown_22 (c_X_has l _ _ _ _ e3) ts_8 ts_good rfl rfl ts_4 ns_6 dy_X_has (by decide) (Nat.le_of_ble_eq_true rfl) ts_9 ?_
      refine J_if_eq (tgt := 52) d_XO_nextDown_25 (by decide) (fun c => ?_) (fun c => ?_)
      · have h := j_ifp c h
        refine J_iinc (v := (x4 + (1 : Int32))) d_XO_nextDown_52 rfl (by first | rfl | decide) (by decide) ?_
        refine J_goto (tgt := 12) d_XO_nextDown_55 (by decide) ?_
        exact ih _ _ h
      · have h := j_ifn c h
        refine J_aload_n d_XO_nextDown_28 rfl ?_
        refine J_get (j := 0) (v := .ref 6) d_XO_nextDown_29 (wX_at11 _ _) rfl in_4 (by decide) ts_151 rfl ?_
        refine J_iload d_XO_nextDown_32 rfl ?_
        obtain ⟨v6, e5, h⟩ := jb_some h
        refine J_cVi1 d_XO_nextDown_34 (c_XK_strictlyAbove l _ _ _ _ e5) (wX_at6 _ _) rfl ts_168 ts_good rfl rfl ts_11 ts_169 dy_XK_strictlyAbove (by decide) (Nat.le_of_ble_eq_true rfl) ts_170 ts_171 ?_
        refine J_aload_n d_XO_nextDown_37 rfl ?_
        refine J_get (j := 2) (v := .int (s 9)) d_XO_nextDown_38 (wX_at11 _ _) rfl in_4 (by decide) ts_148 rfl ?_
        refine J_iand d_XO_nextDown_41 ?_
        refine J_iload_n d_XO_nextDown_42 rfl ?_
        refine J_iconst (v := (-1 : Int32)) d_XO_nextDown_43 (by decide) ?_
        refine J_ixor d_XO_nextDown_44 ?_
        refine J_iand d_XO_nextDown_45 ?_
        refine J_if_ne (tgt := 52) d_XO_nextDown_46 (by decide) (fun c => ?_) (fun c => ?_)
        · have h := j_ifn c h
          refine J_iinc (v := (x4 + (1 : Int32))) d_XO_nextDown_52 rfl (by first | rfl | decide) (by decide) ?_
          refine J_goto (tgt := 12) d_XO_nextDown_55 (by decide) ?_
          exact ih _ _ h
        · have h := j_ifp c h
          refine J_iload d_XO_nextDown_49 rfl ?_
          exact J_iret d_XO_nextDown_51 rfl rfl (by cases h; exact ⟨rfl, rfl⟩)
def m_XO_nextDown (s : jS) (a : jB) (p0 : Int32) (p1 : Int32) : Option (Int32) := jb (m_XK_allAbove s a p0) (fun v2 => L_XO_nextDown_12 (s) (a) (p1) (v2) (fun _ => some ((-6 : Int32))) jF ((0 : Int32)))
set_option maxRecDepth 100000 in
set_option maxHeartbeats 4000000 in
theorem c_XO_nextDown (l : Launch) (s : jS) (a : jB) (p0 : Int32) (p1 : Int32) (r : Int32) (h : m_XO_nextDown s a p0 p1 = some r) : JMet l vwCl NsG (.code y_XO_nextDown prog_4_method_9_code 5 (some .int) :: TsG) y_XO_nextDown rm_XO_nextDown [.ref 11, .int p0, .int p1] (wX s a) (fun v w => v = some (.int r) ∧ w = wX s a) := by
  refine J_enter (by decide +kernel) rfl (Nat.le_of_ble_eq_true rfl) ?_
  unfold m_XO_nextDown at h
  refine J_eq (ls' := [some (.ref 11), some (.int p0), some (.int p1), none, none]) rfl rfl rfl rfl ?_
  refine J_aload_n d_XO_nextDown_0 rfl ?_
  refine J_get (j := 0) (v := .ref 6) d_XO_nextDown_1 (wX_at11 _ _) rfl in_4 (by decide) ts_151 rfl ?_
  refine J_iload_n d_XO_nextDown_4 rfl ?_
  obtain ⟨v2, e1, h⟩ := jb_some h
  refine J_cVi1 d_XO_nextDown_5 (c_XK_allAbove l _ _ _ _ e1) (wX_at6 _ _) rfl ts_164 ts_good rfl rfl ts_11 ts_165 dy_XK_allAbove (by decide) (Nat.le_of_ble_eq_true rfl) ts_166 ts_167 ?_
  refine J_istore_n d_XO_nextDown_8 (by decide) ?_
  refine J_iconst (v := (0 : Int32)) d_XO_nextDown_9 (by decide) ?_
  refine J_istore d_XO_nextDown_10 (by decide) ?_
  refine JL_XO_nextDown_12 l _ _ _ _ _ r (fun _ o7 o8 h => ?_) jF _ _ h
  refine J_bipush (v := (-6 : Int32)) d_XO_nextDown_58 (by decide) ?_
  exact J_iret d_XO_nextDown_60 rfl rfl (by cases h; exact ⟨rfl, rfl⟩)
abbrev rm_XO_searchDown : Room := { frames := 6, cells := 0, slots := 0, locals := 131 }
abbrev K_XO_searchDown (l : Launch) := JW l vwCl NsG TsG "ClassifySort$Order" prog_4_method_7_code 5 none rm_XO_searchDown
def L_XO_searchDown_7 (c1 : Int32) (k53 : jS → jB → Option (jS × jB)) : Nat → jS → jB → Int32 → Int32 → Option (jS × jB)
  | 0, _, _, _, _ => none
  | f + 1, s, a, x2, x3 => (if (20 : Int32) ≤ x3 then k53 (s) (a) else jb (m_XO_nextDown s a c1 x2) (fun v2 => (if v2 = (-6 : Int32) then some (s, a) else jb (m_X_bit v2) (fun v4 => jb3 (m_XO_answer s a c1 v2) (fun v8 s6 a7 => L_XO_searchDown_7 c1 k53 f (s6) (a7) ((x2 &&& (v4 ^^^ (-1 : Int32)))) ((x3 + (1 : Int32))))))))
set_option maxRecDepth 100000 in
set_option maxHeartbeats 4000000 in
theorem JL_XO_searchDown_7 (l : Launch) (c1 : Int32) (k53 : jS → jB → Option (jS × jB)) (r : jS × jB) (hk53 : ∀ (s : jS) (a : jB) (o2 : Option Value) (o3 : Option Value) (o4 : Option Value), k53 s a = some r → K_XO_searchDown l 53 [some (.ref 11), some (.int c1), o2, o3, o4] [] (wX s a) (fun v w => v = none ∧ w = wX r.1 r.2)) : ∀ (f : Nat), ∀ (s : jS) (a : jB) (x2 : Int32) (x3 : Int32) (o4 : Option Value), L_XO_searchDown_7 c1 k53 f s a x2 x3 = some r → K_XO_searchDown l 7 [some (.ref 11), some (.int c1), some (.int x2), some (.int x3), o4] [] (wX s a) (fun v w => v = none ∧ w = wX r.1 r.2) := by
  intro f
  induction f with
  | zero =>
    intro s a x2 x3 o4 h
    cases h
  | succ f ih =>
    intro s a x2 x3 o4 h
    rw [L_XO_searchDown_7] at h
    refine J_iload_n d_XO_searchDown_7 rfl ?_
    refine J_bipush (v := (20 : Int32)) d_XO_searchDown_8 (by decide) ?_
    refine J_icmp_ge (tgt := 53) d_XO_searchDown_10 (by decide) (fun c => ?_) (fun c => ?_)
    · have h := j_ifp c h
      exact hk53 _ _ _ _ _ h
    · have h := j_ifn c h
      refine J_aload_n d_XO_searchDown_13 rfl ?_
      refine J_iload_n d_XO_searchDown_14 rfl ?_
      refine J_iload_n d_XO_searchDown_15 rfl ?_
      obtain ⟨v2, e1, h⟩ := jb_some h
      refine J_cVi2 d_XO_searchDown_16 (c_XO_nextDown l _ _ _ _ _ e1) (wX_at11 _ _) rfl ts_172 ts_good rfl rfl ts_160 ts_173 dy_XO_nextDown (by decide) (Nat.le_of_ble_eq_true rfl) ts_174 ts_175 ?_
      refine J_istore d_XO_searchDown_19 (by decide) ?_
      refine J_iload d_XO_searchDown_21 rfl ?_
      refine J_bipush (v := (-6 : Int32)) d_XO_searchDown_23 (by decide) ?_
      refine J_icmp_ne (tgt := 29) d_XO_searchDown_25 (by decide) (fun c => ?_) (fun c => ?_)
      · have h := j_ifn c h
        refine J_iload_n d_XO_searchDown_29 rfl ?_
        refine J_iload d_XO_searchDown_30 rfl ?_
        obtain ⟨v4, e3, h⟩ := jb_some h
        refine J_cSi1N d_XO_searchDown_32 (c_X_bit l _ _ _ e3) ts_3 ts_good rfl rfl ts_4 ns_5 dy_X_bit (by decide) (Nat.le_of_ble_eq_true rfl) ts_5 ?_
        refine J_iconst (v := (-1 : Int32)) d_XO_searchDown_35 (by decide) ?_
        refine J_ixor d_XO_searchDown_36 ?_
        refine J_iand d_XO_searchDown_37 ?_
        refine J_istore_n d_XO_searchDown_38 (by decide) ?_
        refine J_aload_n d_XO_searchDown_39 rfl ?_
        refine J_iload_n d_XO_searchDown_40 rfl ?_
        refine J_iload d_XO_searchDown_41 rfl ?_
        obtain ⟨v8, s6, a7, e5, h⟩ := jb3_some h
        refine J_cVi2 d_XO_searchDown_43 (c_XO_answer l _ _ _ _ _ e5) (wX_at11 _ _) rfl ts_159 ts_good rfl rfl ts_160 ts_161 dy_XO_answer (by decide) (Nat.le_of_ble_eq_true rfl) ts_162 ts_163 ?_
        refine J_pop d_XO_searchDown_46 rfl ?_
        refine J_iinc (v := (x3 + (1 : Int32))) d_XO_searchDown_47 rfl (by first | rfl | decide) (by decide) ?_
        refine J_goto (tgt := 7) d_XO_searchDown_50 (by decide) ?_
        exact ih _ _ _ _ _ h
      · have h := j_ifp c h
        exact J_vret d_XO_searchDown_28 rfl (by cases h; exact ⟨rfl, rfl⟩)
def m_XO_searchDown (s : jS) (a : jB) (p0 : Int32) : Option (jS × jB) := L_XO_searchDown_7 (p0) (fun s9 a10 => some (s9, a10)) jF (s) (a) ((s 9)) ((0 : Int32))
set_option maxRecDepth 100000 in
set_option maxHeartbeats 4000000 in
theorem c_XO_searchDown (l : Launch) (s : jS) (a : jB) (p0 : Int32) (r : jS × jB) (h : m_XO_searchDown s a p0 = some r) : JMet l vwCl NsG (.code y_XO_searchDown prog_4_method_7_code 5 none :: TsG) y_XO_searchDown rm_XO_searchDown [.ref 11, .int p0] (wX s a) (fun v w => v = none ∧ w = wX r.1 r.2) := by
  refine J_enter (by decide +kernel) rfl (Nat.le_of_ble_eq_true rfl) ?_
  unfold m_XO_searchDown at h
  refine J_eq (ls' := [some (.ref 11), some (.int p0), none, none, none]) rfl rfl rfl rfl ?_
  refine J_aload_n d_XO_searchDown_0 rfl ?_
  refine J_get (j := 2) (v := .int (s 9)) d_XO_searchDown_1 (wX_at11 _ _) rfl in_4 (by decide) ts_148 rfl ?_
  refine J_istore_n d_XO_searchDown_4 (by decide) ?_
  refine J_iconst (v := (0 : Int32)) d_XO_searchDown_5 (by decide) ?_
  refine J_istore_n d_XO_searchDown_6 (by decide) ?_
  refine JL_XO_searchDown_7 l _ _ r (fun s9 a10 o11 o12 o13 h => ?_) jF _ _ _ _ _ h
  exact J_vret d_XO_searchDown_53 rfl (by cases h; exact ⟨rfl, rfl⟩)
abbrev rm_XK_allBelow : Room := { frames := 0, cells := 0, slots := 0, locals := 0 }
abbrev K_XK_allBelow (l : Launch) := JW l vwCl NsG TsG "ClassifySort$Knowledge" prog_3_method_5_code 2 (some .int) rm_XK_allBelow
def m_XK_allBelow (s : jS) (a : jB) (p0 : Int32) : Option (Int32) := jg (jin p0 21) (some (((a 8) (p0).toNatClampNeg)))
set_option maxRecDepth 100000 in
set_option maxHeartbeats 4000000 in
theorem c_XK_allBelow (l : Launch) (s : jS) (a : jB) (p0 : Int32) (r : Int32) (h : m_XK_allBelow s a p0 = some r) : JMet l vwCl NsG (.code y_XK_allBelow prog_3_method_5_code 2 (some .int) :: TsG) y_XK_allBelow rm_XK_allBelow [.ref 6, .int p0] (wX s a) (fun v w => v = some (.int r) ∧ w = wX s a) := by
  refine J_enter (by decide +kernel) rfl (Nat.le_of_ble_eq_true rfl) ?_
  unfold m_XK_allBelow at h
  refine J_eq (ls' := [some (.ref 6), some (.int p0)]) rfl rfl rfl rfl ?_
  refine J_aload_n d_XK_allBelow_0 rfl ?_
  refine J_get (j := 1) (v := .ref 8) d_XK_allBelow_1 (wX_at6 _ _) rfl in_3 (by decide) ts_6 rfl ?_
  refine J_iload_n d_XK_allBelow_4 rfl ?_
  obtain ⟨g, h⟩ := jg_some h
  refine J_iald (f := (a 8)) d_XK_allBelow_5 (wX_at8 _ _) (jin_in g) ?_
  exact J_iret d_XK_allBelow_6 rfl rfl (by cases h; exact ⟨rfl, rfl⟩)
abbrev rm_XK_strictlyBelow : Room := { frames := 0, cells := 0, slots := 0, locals := 0 }
abbrev K_XK_strictlyBelow (l : Launch) := JW l vwCl NsG TsG "ClassifySort$Knowledge" prog_3_method_7_code 2 (some .int) rm_XK_strictlyBelow
def m_XK_strictlyBelow (s : jS) (a : jB) (p0 : Int32) : Option (Int32) := jg (jin p0 21) (jg (jin p0 21) (some ((((a 8) (p0).toNatClampNeg) &&& (((a 7) (p0).toNatClampNeg) ^^^ (-1 : Int32))))))
set_option maxRecDepth 100000 in
set_option maxHeartbeats 4000000 in
theorem c_XK_strictlyBelow (l : Launch) (s : jS) (a : jB) (p0 : Int32) (r : Int32) (h : m_XK_strictlyBelow s a p0 = some r) : JMet l vwCl NsG (.code y_XK_strictlyBelow prog_3_method_7_code 2 (some .int) :: TsG) y_XK_strictlyBelow rm_XK_strictlyBelow [.ref 6, .int p0] (wX s a) (fun v w => v = some (.int r) ∧ w = wX s a) := by
  refine J_enter (by decide +kernel) rfl (Nat.le_of_ble_eq_true rfl) ?_
  unfold m_XK_strictlyBelow at h
  refine J_eq (ls' := [some (.ref 6), some (.int p0)]) rfl rfl rfl rfl ?_
  refine J_aload_n d_XK_strictlyBelow_0 rfl ?_
  refine J_get (j := 1) (v := .ref 8) d_XK_strictlyBelow_1 (wX_at6 _ _) rfl in_3 (by decide) ts_6 rfl ?_
  refine J_iload_n d_XK_strictlyBelow_4 rfl ?_
  obtain ⟨g, h⟩ := jg_some h
  refine J_iald (f := (a 8)) d_XK_strictlyBelow_5 (wX_at8 _ _) (jin_in g) ?_
  refine J_aload_n d_XK_strictlyBelow_6 rfl ?_
  refine J_get (j := 0) (v := .ref 7) d_XK_strictlyBelow_7 (wX_at6 _ _) rfl in_3 (by decide) ts_2 rfl ?_
  refine J_iload_n d_XK_strictlyBelow_10 rfl ?_
  obtain ⟨g, h⟩ := jg_some h
  refine J_iald (f := (a 7)) d_XK_strictlyBelow_11 (wX_at7 _ _) (jin_in g) ?_
  refine J_iconst (v := (-1 : Int32)) d_XK_strictlyBelow_12 (by decide) ?_
  refine J_ixor d_XK_strictlyBelow_13 ?_
  refine J_iand d_XK_strictlyBelow_14 ?_
  exact J_iret d_XK_strictlyBelow_15 rfl rfl (by cases h; exact ⟨rfl, rfl⟩)
abbrev rm_XO_nextUp : Room := { frames := 2, cells := 0, slots := 0, locals := 41 }
abbrev K_XO_nextUp (l : Launch) := JW l vwCl NsG TsG "ClassifySort$Order" prog_4_method_10_code 6 (some .int) rm_XO_nextUp
def L_XO_nextUp_27 (s : jS) (a : jB) (c2 : Int32) (c3 : Int32) (c4 : Int32) (k90 : Unit → Option (Int32)) : Nat → Int32 → Option (Int32)
  | 0, _ => none
  | f + 1, x5 => (if (20 : Int32) ≤ x5 then k90 () else jb (m_X_has c2 x5) (fun v6 => (if v6 = (0 : Int32) then L_XO_nextUp_27 s a c2 c3 c4 k90 f ((x5 + (1 : Int32))) else jb (m_XK_allAbove s a x5) (fun v8 => (if (c3 &&& (v8 ^^^ (-1 : Int32))) = (0 : Int32) then jb (m_XK_strictlyBelow s a x5) (fun v10 => (if ((v10 &&& (s 9)) &&& (c4 ^^^ (-1 : Int32))) = (0 : Int32) then some (x5) else L_XO_nextUp_27 s a c2 c3 c4 k90 f ((x5 + (1 : Int32))))) else L_XO_nextUp_27 s a c2 c3 c4 k90 f ((x5 + (1 : Int32))))))))
set_option maxRecDepth 100000 in
set_option maxHeartbeats 4000000 in
theorem JL_XO_nextUp_27 (l : Launch) (s : jS) (a : jB) (c2 : Int32) (c3 : Int32) (c4 : Int32) (k90 : Unit → Option (Int32)) (r : Int32) (hk90 : ∀ (_ : Unit) (o1 : Option Value) (o5 : Option Value), k90 () = some r → K_XO_nextUp l 90 [some (.ref 11), o1, some (.int c2), some (.int c3), some (.int c4), o5] [] (wX s a) (fun v w => v = some (.int r) ∧ w = wX s a)) : ∀ (f : Nat), ∀ (x5 : Int32) (o1 : Option Value), L_XO_nextUp_27 s a c2 c3 c4 k90 f x5 = some r → K_XO_nextUp l 27 [some (.ref 11), o1, some (.int c2), some (.int c3), some (.int c4), some (.int x5)] [] (wX s a) (fun v w => v = some (.int r) ∧ w = wX s a) := by
  intro f
  induction f with
  | zero =>
    intro x5 o1 h
    cases h
  | succ f ih =>
    intro x5 o1 h
    rw [L_XO_nextUp_27] at h
    refine J_iload d_XO_nextUp_27 rfl ?_
    refine J_bipush (v := (20 : Int32)) d_XO_nextUp_29 (by decide) ?_
    refine J_icmp_ge (tgt := 90) d_XO_nextUp_31 (by decide) (fun c => ?_) (fun c => ?_)
    · have h := j_ifp c h
      exact hk90 () _ _ h
    · have h := j_ifn c h
      refine J_iload_n d_XO_nextUp_34 rfl ?_
      refine J_iload d_XO_nextUp_35 rfl ?_
      obtain ⟨v6, e5, h⟩ := jb_some h
      refine J_cSi2N d_XO_nextUp_37 (c_X_has l _ _ _ _ e5) ts_8 ts_good rfl rfl ts_4 ns_6 dy_X_has (by decide) (Nat.le_of_ble_eq_true rfl) ts_9 ?_
      refine J_if_eq (tgt := 84) d_XO_nextUp_40 (by decide) (fun c => ?_) (fun c => ?_)
      · have h := j_ifp c h
        refine J_iinc (v := (x5 + (1 : Int32))) d_XO_nextUp_84 rfl (by first | rfl | decide) (by decide) ?_
        refine J_goto (tgt := 27) d_XO_nextUp_87 (by decide) ?_
        exact ih _ _ h
      · have h := j_ifn c h
        refine J_iload_n d_XO_nextUp_43 rfl ?_
        refine J_aload_n d_XO_nextUp_44 rfl ?_
        refine J_get (j := 0) (v := .ref 6) d_XO_nextUp_45 (wX_at11 _ _) rfl in_4 (by decide) ts_151 rfl ?_
        refine J_iload d_XO_nextUp_48 rfl ?_
        obtain ⟨v8, e7, h⟩ := jb_some h
        refine J_cVi1 d_XO_nextUp_50 (c_XK_allAbove l _ _ _ _ e7) (wX_at6 _ _) rfl ts_164 ts_good rfl rfl ts_11 ts_165 dy_XK_allAbove (by decide) (Nat.le_of_ble_eq_true rfl) ts_166 ts_167 ?_
        refine J_iconst (v := (-1 : Int32)) d_XO_nextUp_53 (by decide) ?_
        refine J_ixor d_XO_nextUp_54 ?_
        refine J_iand d_XO_nextUp_55 ?_
        refine J_if_ne (tgt := 84) d_XO_nextUp_56 (by decide) (fun c => ?_) (fun c => ?_)
        · have h := j_ifn c h
          refine J_iinc (v := (x5 + (1 : Int32))) d_XO_nextUp_84 rfl (by first | rfl | decide) (by decide) ?_
          refine J_goto (tgt := 27) d_XO_nextUp_87 (by decide) ?_
          exact ih _ _ h
        · have h := j_ifp c h
          refine J_aload_n d_XO_nextUp_59 rfl ?_
          refine J_get (j := 0) (v := .ref 6) d_XO_nextUp_60 (wX_at11 _ _) rfl in_4 (by decide) ts_151 rfl ?_
          refine J_iload d_XO_nextUp_63 rfl ?_
          obtain ⟨v10, e9, h⟩ := jb_some h
          refine J_cVi1 d_XO_nextUp_65 (c_XK_strictlyBelow l _ _ _ _ e9) (wX_at6 _ _) rfl ts_184 ts_good rfl rfl ts_11 ts_185 dy_XK_strictlyBelow (by decide) (Nat.le_of_ble_eq_true rfl) ts_186 ts_187 ?_
          refine J_aload_n d_XO_nextUp_68 rfl ?_
          refine J_get (j := 2) (v := .int (s 9)) d_XO_nextUp_69 (wX_at11 _ _) rfl in_4 (by decide) ts_148 rfl ?_
          refine J_iand d_XO_nextUp_72 ?_
          refine J_iload d_XO_nextUp_73 rfl ?_
          refine J_iconst (v := (-1 : Int32)) d_XO_nextUp_75 (by decide) ?_
          refine J_ixor d_XO_nextUp_76 ?_
          refine J_iand d_XO_nextUp_77 ?_
          refine J_if_ne (tgt := 84) d_XO_nextUp_78 (by decide) (fun c => ?_) (fun c => ?_)
          · have h := j_ifn c h
            refine J_iinc (v := (x5 + (1 : Int32))) d_XO_nextUp_84 rfl (by first | rfl | decide) (by decide) ?_
            refine J_goto (tgt := 27) d_XO_nextUp_87 (by decide) ?_
            exact ih _ _ h
          · have h := j_ifp c h
            refine J_iload d_XO_nextUp_81 rfl ?_
            exact J_iret d_XO_nextUp_83 rfl rfl (by cases h; exact ⟨rfl, rfl⟩)
def m_XO_nextUp (s : jS) (a : jB) (p0 : Int32) (p1 : Int32) : Option (Int32) := jb (m_XK_allAbove s a p0) (fun v2 => jb (m_XK_allBelow s a p0) (fun v4 => L_XO_nextUp_27 (s) (a) (p1) ((v2 &&& (s 9))) (v4) (fun _ => some ((-6 : Int32))) jF ((0 : Int32))))
set_option maxRecDepth 100000 in
set_option maxHeartbeats 4000000 in
theorem c_XO_nextUp (l : Launch) (s : jS) (a : jB) (p0 : Int32) (p1 : Int32) (r : Int32) (h : m_XO_nextUp s a p0 p1 = some r) : JMet l vwCl NsG (.code y_XO_nextUp prog_4_method_10_code 6 (some .int) :: TsG) y_XO_nextUp rm_XO_nextUp [.ref 11, .int p0, .int p1] (wX s a) (fun v w => v = some (.int r) ∧ w = wX s a) := by
  refine J_enter (by decide +kernel) rfl (Nat.le_of_ble_eq_true rfl) ?_
  unfold m_XO_nextUp at h
  refine J_eq (ls' := [some (.ref 11), some (.int p0), some (.int p1), none, none, none]) rfl rfl rfl rfl ?_
  refine J_aload_n d_XO_nextUp_0 rfl ?_
  refine J_get (j := 0) (v := .ref 6) d_XO_nextUp_1 (wX_at11 _ _) rfl in_4 (by decide) ts_151 rfl ?_
  refine J_iload_n d_XO_nextUp_4 rfl ?_
  obtain ⟨v2, e1, h⟩ := jb_some h
  refine J_cVi1 d_XO_nextUp_5 (c_XK_allAbove l _ _ _ _ e1) (wX_at6 _ _) rfl ts_164 ts_good rfl rfl ts_11 ts_165 dy_XK_allAbove (by decide) (Nat.le_of_ble_eq_true rfl) ts_166 ts_167 ?_
  refine J_aload_n d_XO_nextUp_8 rfl ?_
  refine J_get (j := 2) (v := .int (s 9)) d_XO_nextUp_9 (wX_at11 _ _) rfl in_4 (by decide) ts_148 rfl ?_
  refine J_iand d_XO_nextUp_12 ?_
  refine J_istore_n d_XO_nextUp_13 (by decide) ?_
  refine J_aload_n d_XO_nextUp_14 rfl ?_
  refine J_get (j := 0) (v := .ref 6) d_XO_nextUp_15 (wX_at11 _ _) rfl in_4 (by decide) ts_151 rfl ?_
  refine J_iload_n d_XO_nextUp_18 rfl ?_
  obtain ⟨v4, e3, h⟩ := jb_some h
  refine J_cVi1 d_XO_nextUp_19 (c_XK_allBelow l _ _ _ _ e3) (wX_at6 _ _) rfl ts_180 ts_good rfl rfl ts_11 ts_181 dy_XK_allBelow (by decide) (Nat.le_of_ble_eq_true rfl) ts_182 ts_183 ?_
  refine J_istore d_XO_nextUp_22 (by decide) ?_
  refine J_iconst (v := (0 : Int32)) d_XO_nextUp_24 (by decide) ?_
  refine J_istore d_XO_nextUp_25 (by decide) ?_
  refine JL_XO_nextUp_27 l _ _ _ _ _ _ r (fun _ o11 o12 h => ?_) jF _ _ h
  refine J_bipush (v := (-6 : Int32)) d_XO_nextUp_90 (by decide) ?_
  exact J_iret d_XO_nextUp_92 rfl rfl (by cases h; exact ⟨rfl, rfl⟩)
abbrev rm_XO_searchUp : Room := { frames := 6, cells := 0, slots := 0, locals := 131 }
abbrev K_XO_searchUp (l : Launch) := JW l vwCl NsG TsG "ClassifySort$Order" prog_4_method_8_code 5 none rm_XO_searchUp
def L_XO_searchUp_7 (c1 : Int32) (k53 : jS → jB → Option (jS × jB)) : Nat → jS → jB → Int32 → Int32 → Option (jS × jB)
  | 0, _, _, _, _ => none
  | f + 1, s, a, x2, x3 => (if (20 : Int32) ≤ x3 then k53 (s) (a) else jb (m_XO_nextUp s a c1 x2) (fun v2 => (if v2 = (-6 : Int32) then some (s, a) else jb (m_X_bit v2) (fun v4 => jb3 (m_XO_answer s a v2 c1) (fun v8 s6 a7 => L_XO_searchUp_7 c1 k53 f (s6) (a7) ((x2 &&& (v4 ^^^ (-1 : Int32)))) ((x3 + (1 : Int32))))))))
set_option maxRecDepth 100000 in
set_option maxHeartbeats 4000000 in
theorem JL_XO_searchUp_7 (l : Launch) (c1 : Int32) (k53 : jS → jB → Option (jS × jB)) (r : jS × jB) (hk53 : ∀ (s : jS) (a : jB) (o2 : Option Value) (o3 : Option Value) (o4 : Option Value), k53 s a = some r → K_XO_searchUp l 53 [some (.ref 11), some (.int c1), o2, o3, o4] [] (wX s a) (fun v w => v = none ∧ w = wX r.1 r.2)) : ∀ (f : Nat), ∀ (s : jS) (a : jB) (x2 : Int32) (x3 : Int32) (o4 : Option Value), L_XO_searchUp_7 c1 k53 f s a x2 x3 = some r → K_XO_searchUp l 7 [some (.ref 11), some (.int c1), some (.int x2), some (.int x3), o4] [] (wX s a) (fun v w => v = none ∧ w = wX r.1 r.2) := by
  intro f
  induction f with
  | zero =>
    intro s a x2 x3 o4 h
    cases h
  | succ f ih =>
    intro s a x2 x3 o4 h
    rw [L_XO_searchUp_7] at h
    refine J_iload_n d_XO_searchUp_7 rfl ?_
    refine J_bipush (v := (20 : Int32)) d_XO_searchUp_8 (by decide) ?_
    refine J_icmp_ge (tgt := 53) d_XO_searchUp_10 (by decide) (fun c => ?_) (fun c => ?_)
    · have h := j_ifp c h
      exact hk53 _ _ _ _ _ h
    · have h := j_ifn c h
      refine J_aload_n d_XO_searchUp_13 rfl ?_
      refine J_iload_n d_XO_searchUp_14 rfl ?_
      refine J_iload_n d_XO_searchUp_15 rfl ?_
      obtain ⟨v2, e1, h⟩ := jb_some h
      refine J_cVi2 d_XO_searchUp_16 (c_XO_nextUp l _ _ _ _ _ e1) (wX_at11 _ _) rfl ts_188 ts_good rfl rfl ts_160 ts_189 dy_XO_nextUp (by decide) (Nat.le_of_ble_eq_true rfl) ts_190 ts_191 ?_
      refine J_istore d_XO_searchUp_19 (by decide) ?_
      refine J_iload d_XO_searchUp_21 rfl ?_
      refine J_bipush (v := (-6 : Int32)) d_XO_searchUp_23 (by decide) ?_
      refine J_icmp_ne (tgt := 29) d_XO_searchUp_25 (by decide) (fun c => ?_) (fun c => ?_)
      · have h := j_ifn c h
        refine J_iload_n d_XO_searchUp_29 rfl ?_
        refine J_iload d_XO_searchUp_30 rfl ?_
        obtain ⟨v4, e3, h⟩ := jb_some h
        refine J_cSi1N d_XO_searchUp_32 (c_X_bit l _ _ _ e3) ts_3 ts_good rfl rfl ts_4 ns_5 dy_X_bit (by decide) (Nat.le_of_ble_eq_true rfl) ts_5 ?_
        refine J_iconst (v := (-1 : Int32)) d_XO_searchUp_35 (by decide) ?_
        refine J_ixor d_XO_searchUp_36 ?_
        refine J_iand d_XO_searchUp_37 ?_
        refine J_istore_n d_XO_searchUp_38 (by decide) ?_
        refine J_aload_n d_XO_searchUp_39 rfl ?_
        refine J_iload d_XO_searchUp_40 rfl ?_
        refine J_iload_n d_XO_searchUp_42 rfl ?_
        obtain ⟨v8, s6, a7, e5, h⟩ := jb3_some h
        refine J_cVi2 d_XO_searchUp_43 (c_XO_answer l _ _ _ _ _ e5) (wX_at11 _ _) rfl ts_159 ts_good rfl rfl ts_160 ts_161 dy_XO_answer (by decide) (Nat.le_of_ble_eq_true rfl) ts_162 ts_163 ?_
        refine J_pop d_XO_searchUp_46 rfl ?_
        refine J_iinc (v := (x3 + (1 : Int32))) d_XO_searchUp_47 rfl (by first | rfl | decide) (by decide) ?_
        refine J_goto (tgt := 7) d_XO_searchUp_50 (by decide) ?_
        exact ih _ _ _ _ _ h
      · have h := j_ifp c h
        exact J_vret d_XO_searchUp_28 rfl (by cases h; exact ⟨rfl, rfl⟩)
def m_XO_searchUp (s : jS) (a : jB) (p0 : Int32) : Option (jS × jB) := L_XO_searchUp_7 (p0) (fun s9 a10 => some (s9, a10)) jF (s) (a) ((s 9)) ((0 : Int32))
set_option maxRecDepth 100000 in
set_option maxHeartbeats 4000000 in
theorem c_XO_searchUp (l : Launch) (s : jS) (a : jB) (p0 : Int32) (r : jS × jB) (h : m_XO_searchUp s a p0 = some r) : JMet l vwCl NsG (.code y_XO_searchUp prog_4_method_8_code 5 none :: TsG) y_XO_searchUp rm_XO_searchUp [.ref 11, .int p0] (wX s a) (fun v w => v = none ∧ w = wX r.1 r.2) := by
  refine J_enter (by decide +kernel) rfl (Nat.le_of_ble_eq_true rfl) ?_
  unfold m_XO_searchUp at h
  refine J_eq (ls' := [some (.ref 11), some (.int p0), none, none, none]) rfl rfl rfl rfl ?_
  refine J_aload_n d_XO_searchUp_0 rfl ?_
  refine J_get (j := 2) (v := .int (s 9)) d_XO_searchUp_1 (wX_at11 _ _) rfl in_4 (by decide) ts_148 rfl ?_
  refine J_istore_n d_XO_searchUp_4 (by decide) ?_
  refine J_iconst (v := (0 : Int32)) d_XO_searchUp_5 (by decide) ?_
  refine J_istore_n d_XO_searchUp_6 (by decide) ?_
  refine JL_XO_searchUp_7 l _ _ r (fun s9 a10 o11 o12 o13 h => ?_) jF _ _ _ _ _ h
  exact J_vret d_XO_searchUp_53 rfl (by cases h; exact ⟨rfl, rfl⟩)
abbrev rm_XO_sort : Room := { frames := 7, cells := 0, slots := 0, locals := 155 }
abbrev K_XO_sort (l : Launch) := JW l vwCl NsG TsG "ClassifySort$Order" prog_4_method_5_code 3 (some .int) rm_XO_sort
def L_XO_sort_17 (c1 : Int32) (k84 : jS → jB → Option (Int32 × jS × jB)) : Nat → jS → jB → Int32 → Option (Int32 × jS × jB)
  | 0, _, _, _ => none
  | f + 1, s, a, x2 => (if c1 ≤ x2 then k84 (s) (a) else (if (20 : Int32) ≤ x2 then k84 (s) (a) else jb3 (m_XO_answer s a x2 (20 : Int32)) (fun v4 s2 a3 => (if v4 = (1 : Int32) then jb (m_X_bit x2) (fun v14 => L_XO_sort_17 c1 k84 f ((upd s2 10 ((s2 10) ||| v14))) (a3) ((x2 + (1 : Int32)))) else jb2 (m_XO_searchDown s2 a3 x2) (fun s6 a7 => jb2 (m_XO_searchUp s6 a7 x2) (fun s9 a10 => jb (m_X_bit x2) (fun v12 => L_XO_sort_17 c1 k84 f ((upd s9 9 ((s9 9) ||| v12))) (a10) ((x2 + (1 : Int32))))))))))
set_option maxRecDepth 100000 in
set_option maxHeartbeats 4000000 in
theorem JL_XO_sort_17 (l : Launch) (c1 : Int32) (k84 : jS → jB → Option (Int32 × jS × jB)) (r : Int32 × jS × jB) (hk84 : ∀ (s : jS) (a : jB) (o2 : Option Value), k84 s a = some r → K_XO_sort l 84 [some (.ref 11), some (.int c1), o2] [] (wX s a) (fun v w => v = some (.int r.1) ∧ w = wX r.2.1 r.2.2)) : ∀ (f : Nat), ∀ (s : jS) (a : jB) (x2 : Int32), L_XO_sort_17 c1 k84 f s a x2 = some r → K_XO_sort l 17 [some (.ref 11), some (.int c1), some (.int x2)] [] (wX s a) (fun v w => v = some (.int r.1) ∧ w = wX r.2.1 r.2.2) := by
  intro f
  induction f with
  | zero =>
    intro s a x2 h
    cases h
  | succ f ih =>
    intro s a x2 h
    rw [L_XO_sort_17] at h
    refine J_iload_n d_XO_sort_17 rfl ?_
    refine J_iload_n d_XO_sort_18 rfl ?_
    refine J_icmp_ge (tgt := 84) d_XO_sort_19 (by decide) (fun c => ?_) (fun c => ?_)
    · have h := j_ifp c h
      exact hk84 _ _ _ h
    · have h := j_ifn c h
      refine J_iload_n d_XO_sort_22 rfl ?_
      refine J_bipush (v := (20 : Int32)) d_XO_sort_23 (by decide) ?_
      refine J_icmp_ge (tgt := 84) d_XO_sort_25 (by decide) (fun c => ?_) (fun c => ?_)
      · have h := j_ifp c h
        exact hk84 _ _ _ h
      · have h := j_ifn c h
        refine J_aload_n d_XO_sort_28 rfl ?_
        refine J_iload_n d_XO_sort_29 rfl ?_
        refine J_bipush (v := (20 : Int32)) d_XO_sort_30 (by decide) ?_
        obtain ⟨v4, s2, a3, e1, h⟩ := jb3_some h
        refine J_cVi2 d_XO_sort_32 (c_XO_answer l _ _ _ _ _ e1) (wX_at11 _ _) rfl ts_159 ts_good rfl rfl ts_160 ts_161 dy_XO_answer (by decide) (Nat.le_of_ble_eq_true rfl) ts_162 ts_163 ?_
        refine J_iconst (v := (1 : Int32)) d_XO_sort_35 (by decide) ?_
        refine J_icmp_ne (tgt := 55) d_XO_sort_36 (by decide) (fun c => ?_) (fun c => ?_)
        · have h := j_ifn c h
          refine J_aload_n d_XO_sort_55 rfl ?_
          refine J_iload_n d_XO_sort_56 rfl ?_
          obtain ⟨s6, a7, e5, h⟩ := jb2_some h
          refine J_cVv1 d_XO_sort_57 (c_XO_searchDown l _ _ _ _ e5) (wX_at11 _ _) rfl ts_176 ts_good rfl rfl ts_160 ts_177 dy_XO_searchDown (by decide) (Nat.le_of_ble_eq_true rfl) ts_178 ts_179 ?_
          refine J_aload_n d_XO_sort_60 rfl ?_
          refine J_iload_n d_XO_sort_61 rfl ?_
          obtain ⟨s9, a10, e8, h⟩ := jb2_some h
          refine J_cVv1 d_XO_sort_62 (c_XO_searchUp l _ _ _ _ e8) (wX_at11 _ _) rfl ts_192 ts_good rfl rfl ts_160 ts_193 dy_XO_searchUp (by decide) (Nat.le_of_ble_eq_true rfl) ts_194 ts_195 ?_
          refine J_aload_n d_XO_sort_65 rfl ?_
          refine J_dup d_XO_sort_66 rfl ?_
          refine J_get (j := 2) (v := .int (s9 9)) d_XO_sort_67 (wX_at11 _ _) rfl in_4 (by decide) ts_148 rfl ?_
          refine J_iload_n d_XO_sort_70 rfl ?_
          obtain ⟨v12, e11, h⟩ := jb_some h
          refine J_cSi1N d_XO_sort_71 (c_X_bit l _ _ _ e11) ts_3 ts_good rfl rfl ts_4 ns_5 dy_X_bit (by decide) (Nat.le_of_ble_eq_true rfl) ts_5 ?_
          refine J_ior d_XO_sort_74 ?_
          refine J_put (j := 2) d_XO_sort_75 (wX_at11 _ _) rfl in_4 ty_XO tyok_XO nok_XO (by decide) ts_148 rfl (tyok_XO 2 (by decide)) rfl rfl (Nat.le_of_ble_eq_true rfl) ?_
          refine J_eq rfl rfl rfl (wX_put9 _ _ _) ?_
          refine J_iinc (v := (x2 + (1 : Int32))) d_XO_sort_78 rfl (by first | rfl | decide) (by decide) ?_
          refine J_goto (tgt := 17) d_XO_sort_81 (by decide) ?_
          exact ih _ _ _ h
        · have h := j_ifp c h
          refine J_aload_n d_XO_sort_39 rfl ?_
          refine J_dup d_XO_sort_40 rfl ?_
          refine J_get (j := 3) (v := .int (s2 10)) d_XO_sort_41 (wX_at11 _ _) rfl in_4 (by decide) ts_149 rfl ?_
          refine J_iload_n d_XO_sort_44 rfl ?_
          obtain ⟨v14, e13, h⟩ := jb_some h
          refine J_cSi1N d_XO_sort_45 (c_X_bit l _ _ _ e13) ts_3 ts_good rfl rfl ts_4 ns_5 dy_X_bit (by decide) (Nat.le_of_ble_eq_true rfl) ts_5 ?_
          refine J_ior d_XO_sort_48 ?_
          refine J_put (j := 3) d_XO_sort_49 (wX_at11 _ _) rfl in_4 ty_XO tyok_XO nok_XO (by decide) ts_149 rfl (tyok_XO 3 (by decide)) rfl rfl (Nat.le_of_ble_eq_true rfl) ?_
          refine J_eq rfl rfl rfl (wX_put10 _ _ _) ?_
          refine J_goto (tgt := 78) d_XO_sort_52 (by decide) ?_
          refine J_iinc (v := (x2 + (1 : Int32))) d_XO_sort_78 rfl (by first | rfl | decide) (by decide) ?_
          refine J_goto (tgt := 17) d_XO_sort_81 (by decide) ?_
          exact ih _ _ _ h
def m_XO_sort (s : jS) (a : jB) (p0 : Int32) : Option (Int32 × jS × jB) := L_XO_sort_17 (p0) (fun s15 a16 => some ((s15 11), s15, a16)) jF ((upd (upd (upd s 9 (0 : Int32)) 10 (0 : Int32)) 11 (0 : Int32))) (a) ((0 : Int32))
set_option maxRecDepth 100000 in
set_option maxHeartbeats 4000000 in
theorem c_XO_sort (l : Launch) (s : jS) (a : jB) (p0 : Int32) (r : Int32 × jS × jB) (h : m_XO_sort s a p0 = some r) : JMet l vwCl NsG (.code y_XO_sort prog_4_method_5_code 3 (some .int) :: TsG) y_XO_sort rm_XO_sort [.ref 11, .int p0] (wX s a) (fun v w => v = some (.int r.1) ∧ w = wX r.2.1 r.2.2) := by
  refine J_enter (by decide +kernel) rfl (Nat.le_of_ble_eq_true rfl) ?_
  unfold m_XO_sort at h
  refine J_eq (ls' := [some (.ref 11), some (.int p0), none]) rfl rfl rfl rfl ?_
  refine J_aload_n d_XO_sort_0 rfl ?_
  refine J_iconst (v := (0 : Int32)) d_XO_sort_1 (by decide) ?_
  refine J_put (j := 2) d_XO_sort_2 (wX_at11 _ _) rfl in_4 ty_XO tyok_XO nok_XO (by decide) ts_148 rfl (tyok_XO 2 (by decide)) rfl rfl (Nat.le_of_ble_eq_true rfl) ?_
  refine J_eq rfl rfl rfl (wX_put9 _ _ _) ?_
  refine J_aload_n d_XO_sort_5 rfl ?_
  refine J_iconst (v := (0 : Int32)) d_XO_sort_6 (by decide) ?_
  refine J_put (j := 3) d_XO_sort_7 (wX_at11 _ _) rfl in_4 ty_XO tyok_XO nok_XO (by decide) ts_149 rfl (tyok_XO 3 (by decide)) rfl rfl (Nat.le_of_ble_eq_true rfl) ?_
  refine J_eq rfl rfl rfl (wX_put10 _ _ _) ?_
  refine J_aload_n d_XO_sort_10 rfl ?_
  refine J_iconst (v := (0 : Int32)) d_XO_sort_11 (by decide) ?_
  refine J_put (j := 4) d_XO_sort_12 (wX_at11 _ _) rfl in_4 ty_XO tyok_XO nok_XO (by decide) ts_150 rfl (tyok_XO 4 (by decide)) rfl rfl (Nat.le_of_ble_eq_true rfl) ?_
  refine J_eq rfl rfl rfl (wX_put11 _ _ _) ?_
  refine J_iconst (v := (0 : Int32)) d_XO_sort_15 (by decide) ?_
  refine J_istore_n d_XO_sort_16 (by decide) ?_
  refine JL_XO_sort_17 l _ _ r (fun s15 a16 o17 h => ?_) jF _ _ _ h
  refine J_aload_n d_XO_sort_84 rfl ?_
  refine J_get (j := 4) (v := .int (s15 11)) d_XO_sort_85 (wX_at11 _ _) rfl in_4 (by decide) ts_150 rfl ?_
  exact J_iret d_XO_sort_88 rfl rfl (by cases h; exact ⟨rfl, rfl⟩)
abbrev rm_X_run : Room := { frames := 8, cells := 0, slots := 0, locals := 177 }
abbrev K_X_run (l : Launch) := JW l vwCl NsG TsG "ClassifySort" prog_1_method_9_code 2 (some .int) rm_X_run
def m_X_run (s : jS) (a : jB) : Option (Int32 × jS × jB) := jb3 (m_XO_sort s a (s 0)) (fun v4 s2 a3 => some (v4, (upd (upd s2 2 ((s2 2) + v4)) 3 (1 : Int32)), a3))
set_option maxRecDepth 100000 in
set_option maxHeartbeats 4000000 in
theorem c_X_run (l : Launch) (s : jS) (a : jB) (r : Int32 × jS × jB) (h : m_X_run s a = some r) : JMet l vwCl NsG (.code y_X_run prog_1_method_9_code 2 (some .int) :: TsG) y_X_run rm_X_run [.ref 0] (wX s a) (fun v w => v = some (.int r.1) ∧ w = wX r.2.1 r.2.2) := by
  refine J_enter (by decide +kernel) rfl (Nat.le_of_ble_eq_true rfl) ?_
  unfold m_X_run at h
  refine J_eq (ls' := [some (.ref 0), none]) rfl rfl rfl rfl ?_
  refine J_aload_n d_X_run_0 rfl ?_
  refine J_get (j := 3) (v := .ref 11) d_X_run_1 (wX_at0 _ _) rfl in_0 (by decide) ts_147 rfl ?_
  refine J_aload_n d_X_run_4 rfl ?_
  refine J_get (j := 5) (v := .int (s 0)) d_X_run_5 (wX_at0 _ _) rfl in_0 (by decide) ts_0 rfl ?_
  obtain ⟨v4, s2, a3, e1, h⟩ := jb3_some h
  refine J_cVi1 d_X_run_8 (c_XO_sort l _ _ _ _ e1) (wX_at11 _ _) rfl ts_196 ts_good rfl rfl ts_160 ts_197 dy_XO_sort (by decide) (Nat.le_of_ble_eq_true rfl) ts_198 ts_199 ?_
  refine J_istore_n d_X_run_11 (by decide) ?_
  refine J_aload_n d_X_run_12 rfl ?_
  refine J_dup d_X_run_13 rfl ?_
  refine J_get (j := 7) (v := .int (s2 2)) d_X_run_14 (wX_at0 _ _) rfl in_0 (by decide) ts_200 rfl ?_
  refine J_iload_n d_X_run_17 rfl ?_
  refine J_iadd d_X_run_18 ?_
  refine J_put (j := 7) d_X_run_19 (wX_at0 _ _) rfl in_0 ty_X tyok_X nok_X (by decide) ts_200 rfl (tyok_X 7 (by decide)) rfl rfl (Nat.le_of_ble_eq_true rfl) ?_
  refine J_eq rfl rfl rfl (wX_put2 _ _ _) ?_
  refine J_aload_n d_X_run_22 rfl ?_
  refine J_iconst (v := (1 : Int32)) d_X_run_23 (by decide) ?_
  refine J_put (j := 8) d_X_run_24 (wX_at0 _ _) rfl in_0 ty_X tyok_X nok_X (by decide) ts_28 rfl (tyok_X 8 (by decide)) (by decide) (by decide) (Nat.le_of_ble_eq_true rfl) ?_
  refine J_eq rfl rfl rfl (wX_put3 _ _ _) ?_
  refine J_iload_n d_X_run_27 rfl ?_
  exact J_iret d_X_run_28 rfl rfl (by cases h; exact ⟨rfl, rfl⟩)
abbrev rm_XO_isEmptyClass : Room := { frames := 2, cells := 0, slots := 0, locals := 41 }
abbrev K_XO_isEmptyClass (l : Launch) := JW l vwCl NsG TsG "ClassifySort$Order" prog_4_method_4_code 2 (some .boolean) rm_XO_isEmptyClass
def m_XO_isEmptyClass (s : jS) (a : jB) (p0 : Int32) : Option (Int32) := jb (m_X_has (s 10) p0) (fun v2 => jg (jz v2) (some (v2)))
set_option maxRecDepth 100000 in
set_option maxHeartbeats 4000000 in
theorem c_XO_isEmptyClass (l : Launch) (s : jS) (a : jB) (p0 : Int32) (r : Int32) (h : m_XO_isEmptyClass s a p0 = some r) : JMet l vwCl NsG (.code y_XO_isEmptyClass prog_4_method_4_code 2 (some .boolean) :: TsG) y_XO_isEmptyClass rm_XO_isEmptyClass [.ref 11, .int p0] (wX s a) (fun v w => v = some (.int r) ∧ w = wX s a) := by
  refine J_enter (by decide +kernel) rfl (Nat.le_of_ble_eq_true rfl) ?_
  unfold m_XO_isEmptyClass at h
  refine J_eq (ls' := [some (.ref 11), some (.int p0)]) rfl rfl rfl rfl ?_
  refine J_aload_n d_XO_isEmptyClass_0 rfl ?_
  refine J_get (j := 3) (v := .int (s 10)) d_XO_isEmptyClass_1 (wX_at11 _ _) rfl in_4 (by decide) ts_149 rfl ?_
  refine J_iload_n d_XO_isEmptyClass_4 rfl ?_
  obtain ⟨v2, e1, h⟩ := jb_some h
  refine J_cSi2N d_XO_isEmptyClass_5 (c_X_has l _ _ _ _ e1) ts_8 ts_good rfl rfl ts_4 ns_6 dy_X_has (by decide) (Nat.le_of_ble_eq_true rfl) ts_9 ?_
  obtain ⟨g, h⟩ := jg_some h
  exact J_iret d_XO_isEmptyClass_8 rfl (jz_nar g) (by cases h; exact ⟨rfl, rfl⟩)
abbrev rm_XK_sameAs : Room := { frames := 0, cells := 0, slots := 0, locals := 0 }
abbrev K_XK_sameAs (l : Launch) := JW l vwCl NsG TsG "ClassifySort$Knowledge" prog_3_method_8_code 2 (some .int) rm_XK_sameAs
def m_XK_sameAs (s : jS) (a : jB) (p0 : Int32) : Option (Int32) := jg (jin p0 21) (jg (jin p0 21) (some ((((a 7) (p0).toNatClampNeg) &&& ((a 8) (p0).toNatClampNeg)))))
set_option maxRecDepth 100000 in
set_option maxHeartbeats 4000000 in
theorem c_XK_sameAs (l : Launch) (s : jS) (a : jB) (p0 : Int32) (r : Int32) (h : m_XK_sameAs s a p0 = some r) : JMet l vwCl NsG (.code y_XK_sameAs prog_3_method_8_code 2 (some .int) :: TsG) y_XK_sameAs rm_XK_sameAs [.ref 6, .int p0] (wX s a) (fun v w => v = some (.int r) ∧ w = wX s a) := by
  refine J_enter (by decide +kernel) rfl (Nat.le_of_ble_eq_true rfl) ?_
  unfold m_XK_sameAs at h
  refine J_eq (ls' := [some (.ref 6), some (.int p0)]) rfl rfl rfl rfl ?_
  refine J_aload_n d_XK_sameAs_0 rfl ?_
  refine J_get (j := 0) (v := .ref 7) d_XK_sameAs_1 (wX_at6 _ _) rfl in_3 (by decide) ts_2 rfl ?_
  refine J_iload_n d_XK_sameAs_4 rfl ?_
  obtain ⟨g, h⟩ := jg_some h
  refine J_iald (f := (a 7)) d_XK_sameAs_5 (wX_at7 _ _) (jin_in g) ?_
  refine J_aload_n d_XK_sameAs_6 rfl ?_
  refine J_get (j := 1) (v := .ref 8) d_XK_sameAs_7 (wX_at6 _ _) rfl in_3 (by decide) ts_6 rfl ?_
  refine J_iload_n d_XK_sameAs_10 rfl ?_
  obtain ⟨g, h⟩ := jg_some h
  refine J_iald (f := (a 8)) d_XK_sameAs_11 (wX_at8 _ _) (jin_in g) ?_
  refine J_iand d_XK_sameAs_12 ?_
  exact J_iret d_XK_sameAs_13 rfl rfl (by cases h; exact ⟨rfl, rfl⟩)
abbrev rm_XO_firstOfSame : Room := { frames := 2, cells := 0, slots := 0, locals := 41 }
abbrev K_XO_firstOfSame (l : Launch) := JW l vwCl NsG TsG "ClassifySort$Order" prog_4_method_15_code 4 (some .int) rm_XO_firstOfSame
def L_XO_firstOfSame_4 (s : jS) (a : jB) (c1 : Int32) (k54 : Int32 → Option (Int32)) : Nat → Int32 → Int32 → Option (Int32)
  | 0, _, _ => none
  | f + 1, x2, x3 => (if (20 : Int32) ≤ x3 then k54 (x2) else jb (m_X_has c1 x3) (fun v2 => (if v2 = (0 : Int32) then L_XO_firstOfSame_4 s a c1 k54 f (x2) ((x3 + (1 : Int32))) else jb (m_XK_sameAs s a x3) (fun v4 => jb (m_X_bit x3) (fun v6 => (if ((v4 &&& (s 9)) &&& (v6 - (1 : Int32))) = (0 : Int32) then jb (m_X_bit x3) (fun v8 => L_XO_firstOfSame_4 s a c1 k54 f ((x2 ||| v8)) ((x3 + (1 : Int32)))) else L_XO_firstOfSame_4 s a c1 k54 f (x2) ((x3 + (1 : Int32)))))))))
set_option maxRecDepth 100000 in
set_option maxHeartbeats 4000000 in
theorem JL_XO_firstOfSame_4 (l : Launch) (s : jS) (a : jB) (c1 : Int32) (k54 : Int32 → Option (Int32)) (r : Int32) (hk54 : ∀ (x2 : Int32) (o3 : Option Value), k54 x2 = some r → K_XO_firstOfSame l 54 [some (.ref 11), some (.int c1), some (.int x2), o3] [] (wX s a) (fun v w => v = some (.int r) ∧ w = wX s a)) : ∀ (f : Nat), ∀ (x2 : Int32) (x3 : Int32), L_XO_firstOfSame_4 s a c1 k54 f x2 x3 = some r → K_XO_firstOfSame l 4 [some (.ref 11), some (.int c1), some (.int x2), some (.int x3)] [] (wX s a) (fun v w => v = some (.int r) ∧ w = wX s a) := by
  intro f
  induction f with
  | zero =>
    intro x2 x3 h
    cases h
  | succ f ih =>
    intro x2 x3 h
    rw [L_XO_firstOfSame_4] at h
    refine J_iload_n d_XO_firstOfSame_4 rfl ?_
    refine J_bipush (v := (20 : Int32)) d_XO_firstOfSame_5 (by decide) ?_
    refine J_icmp_ge (tgt := 54) d_XO_firstOfSame_7 (by decide) (fun c => ?_) (fun c => ?_)
    · have h := j_ifp c h
      exact hk54 _ _ h
    · have h := j_ifn c h
      refine J_iload_n d_XO_firstOfSame_10 rfl ?_
      refine J_iload_n d_XO_firstOfSame_11 rfl ?_
      obtain ⟨v2, e1, h⟩ := jb_some h
      refine J_cSi2N d_XO_firstOfSame_12 (c_X_has l _ _ _ _ e1) ts_8 ts_good rfl rfl ts_4 ns_6 dy_X_has (by decide) (Nat.le_of_ble_eq_true rfl) ts_9 ?_
      refine J_if_eq (tgt := 48) d_XO_firstOfSame_15 (by decide) (fun c => ?_) (fun c => ?_)
      · have h := j_ifp c h
        refine J_iinc (v := (x3 + (1 : Int32))) d_XO_firstOfSame_48 rfl (by first | rfl | decide) (by decide) ?_
        refine J_goto (tgt := 4) d_XO_firstOfSame_51 (by decide) ?_
        exact ih _ _ h
      · have h := j_ifn c h
        refine J_aload_n d_XO_firstOfSame_18 rfl ?_
        refine J_get (j := 0) (v := .ref 6) d_XO_firstOfSame_19 (wX_at11 _ _) rfl in_4 (by decide) ts_151 rfl ?_
        refine J_iload_n d_XO_firstOfSame_22 rfl ?_
        obtain ⟨v4, e3, h⟩ := jb_some h
        refine J_cVi1 d_XO_firstOfSame_23 (c_XK_sameAs l _ _ _ _ e3) (wX_at6 _ _) rfl ts_205 ts_good rfl rfl ts_11 ts_206 dy_XK_sameAs (by decide) (Nat.le_of_ble_eq_true rfl) ts_207 ts_208 ?_
        refine J_aload_n d_XO_firstOfSame_26 rfl ?_
        refine J_get (j := 2) (v := .int (s 9)) d_XO_firstOfSame_27 (wX_at11 _ _) rfl in_4 (by decide) ts_148 rfl ?_
        refine J_iand d_XO_firstOfSame_30 ?_
        refine J_iload_n d_XO_firstOfSame_31 rfl ?_
        obtain ⟨v6, e5, h⟩ := jb_some h
        refine J_cSi1N d_XO_firstOfSame_32 (c_X_bit l _ _ _ e5) ts_3 ts_good rfl rfl ts_4 ns_5 dy_X_bit (by decide) (Nat.le_of_ble_eq_true rfl) ts_5 ?_
        refine J_iconst (v := (1 : Int32)) d_XO_firstOfSame_35 (by decide) ?_
        refine J_isub d_XO_firstOfSame_36 ?_
        refine J_iand d_XO_firstOfSame_37 ?_
        refine J_if_ne (tgt := 48) d_XO_firstOfSame_38 (by decide) (fun c => ?_) (fun c => ?_)
        · have h := j_ifn c h
          refine J_iinc (v := (x3 + (1 : Int32))) d_XO_firstOfSame_48 rfl (by first | rfl | decide) (by decide) ?_
          refine J_goto (tgt := 4) d_XO_firstOfSame_51 (by decide) ?_
          exact ih _ _ h
        · have h := j_ifp c h
          refine J_iload_n d_XO_firstOfSame_41 rfl ?_
          refine J_iload_n d_XO_firstOfSame_42 rfl ?_
          obtain ⟨v8, e7, h⟩ := jb_some h
          refine J_cSi1N d_XO_firstOfSame_43 (c_X_bit l _ _ _ e7) ts_3 ts_good rfl rfl ts_4 ns_5 dy_X_bit (by decide) (Nat.le_of_ble_eq_true rfl) ts_5 ?_
          refine J_ior d_XO_firstOfSame_46 ?_
          refine J_istore_n d_XO_firstOfSame_47 (by decide) ?_
          refine J_iinc (v := (x3 + (1 : Int32))) d_XO_firstOfSame_48 rfl (by first | rfl | decide) (by decide) ?_
          refine J_goto (tgt := 4) d_XO_firstOfSame_51 (by decide) ?_
          exact ih _ _ h
def m_XO_firstOfSame (s : jS) (a : jB) (p0 : Int32) : Option (Int32) := L_XO_firstOfSame_4 (s) (a) (p0) (fun x9 => some (x9)) jF ((0 : Int32)) ((0 : Int32))
set_option maxRecDepth 100000 in
set_option maxHeartbeats 4000000 in
theorem c_XO_firstOfSame (l : Launch) (s : jS) (a : jB) (p0 : Int32) (r : Int32) (h : m_XO_firstOfSame s a p0 = some r) : JMet l vwCl NsG (.code y_XO_firstOfSame prog_4_method_15_code 4 (some .int) :: TsG) y_XO_firstOfSame rm_XO_firstOfSame [.ref 11, .int p0] (wX s a) (fun v w => v = some (.int r) ∧ w = wX s a) := by
  refine J_enter (by decide +kernel) rfl (Nat.le_of_ble_eq_true rfl) ?_
  unfold m_XO_firstOfSame at h
  refine J_eq (ls' := [some (.ref 11), some (.int p0), none, none]) rfl rfl rfl rfl ?_
  refine J_iconst (v := (0 : Int32)) d_XO_firstOfSame_0 (by decide) ?_
  refine J_istore_n d_XO_firstOfSame_1 (by decide) ?_
  refine J_iconst (v := (0 : Int32)) d_XO_firstOfSame_2 (by decide) ?_
  refine J_istore_n d_XO_firstOfSame_3 (by decide) ?_
  refine JL_XO_firstOfSame_4 l _ _ _ _ r (fun x9 o10 h => ?_) jF _ _ h
  refine J_iload_n d_XO_firstOfSame_54 rfl ?_
  exact J_iret d_XO_firstOfSame_55 rfl rfl (by cases h; exact ⟨rfl, rfl⟩)
abbrev rm_X_pick : Room := { frames := 2, cells := 0, slots := 0, locals := 41 }
abbrev K_X_pick (l : Launch) := JW l vwCl NsG TsG "ClassifySort" prog_1_method_26_code 4 (some .int) rm_X_pick
def L_X_pick_4 (c0 : Int32) (k33 : Unit → Option (Int32)) : Nat → Int32 → Int32 → Option (Int32)
  | 0, _, _ => none
  | f + 1, x2, x3 => (if (21 : Int32) ≤ x3 then k33 () else jb (m_X_has c0 x3) (fun v2 => (if v2 = (0 : Int32) then L_X_pick_4 c0 k33 f (x2) ((x3 + (1 : Int32))) else (if x2 = (0 : Int32) then some (x3) else L_X_pick_4 c0 k33 f ((x2 + (-1 : Int32))) ((x3 + (1 : Int32)))))))
set_option maxRecDepth 100000 in
set_option maxHeartbeats 4000000 in
theorem JL_X_pick_4 (l : Launch) (ws : jW) (c0 : Int32) (k33 : Unit → Option (Int32)) (r : Int32) (hk33 : ∀ (_ : Unit) (o1 : Option Value) (o2 : Option Value) (o3 : Option Value), k33 () = some r → K_X_pick l 33 [some (.int c0), o1, o2, o3] [] ws (fun v w => v = some (.int r) ∧ w = ws)) : ∀ (f : Nat), ∀ (x2 : Int32) (x3 : Int32) (o1 : Option Value), L_X_pick_4 c0 k33 f x2 x3 = some r → K_X_pick l 4 [some (.int c0), o1, some (.int x2), some (.int x3)] [] ws (fun v w => v = some (.int r) ∧ w = ws) := by
  intro f
  induction f with
  | zero =>
    intro x2 x3 o1 h
    cases h
  | succ f ih =>
    intro x2 x3 o1 h
    rw [L_X_pick_4] at h
    refine J_iload_n d_X_pick_4 rfl ?_
    refine J_bipush (v := (21 : Int32)) d_X_pick_5 (by decide) ?_
    refine J_icmp_ge (tgt := 33) d_X_pick_7 (by decide) (fun c => ?_) (fun c => ?_)
    · have h := j_ifp c h
      exact hk33 () _ _ _ h
    · have h := j_ifn c h
      refine J_iload_n d_X_pick_10 rfl ?_
      refine J_iload_n d_X_pick_11 rfl ?_
      obtain ⟨v2, e1, h⟩ := jb_some h
      refine J_cSi2 d_X_pick_12 (c_X_has l _ _ _ _ e1) ts_8 ts_good rfl rfl ts_4 ts_213 dy_X_has (by decide) (Nat.le_of_ble_eq_true rfl) ts_9 ?_
      refine J_if_eq (tgt := 27) d_X_pick_15 (by decide) (fun c => ?_) (fun c => ?_)
      · have h := j_ifp c h
        refine J_iinc (v := (x3 + (1 : Int32))) d_X_pick_27 rfl (by first | rfl | decide) (by decide) ?_
        refine J_goto (tgt := 4) d_X_pick_30 (by decide) ?_
        exact ih _ _ _ h
      · have h := j_ifn c h
        refine J_iload_n d_X_pick_18 rfl ?_
        refine J_if_ne (tgt := 24) d_X_pick_19 (by decide) (fun c => ?_) (fun c => ?_)
        · have h := j_ifn c h
          refine J_iinc (v := (x2 + (-1 : Int32))) d_X_pick_24 rfl (by first | rfl | decide) (by decide) ?_
          refine J_iinc (v := (x3 + (1 : Int32))) d_X_pick_27 rfl (by first | rfl | decide) (by decide) ?_
          refine J_goto (tgt := 4) d_X_pick_30 (by decide) ?_
          exact ih _ _ _ h
        · have h := j_ifp c h
          refine J_iload_n d_X_pick_22 rfl ?_
          exact J_iret d_X_pick_23 rfl rfl (by cases h; exact ⟨rfl, rfl⟩)
def m_X_pick (p0 : Int32) (p1 : Int32) : Option (Int32) := L_X_pick_4 (p0) (fun _ => some ((-6 : Int32))) jF (p1) ((0 : Int32))
set_option maxRecDepth 100000 in
set_option maxHeartbeats 4000000 in
theorem c_X_pick (l : Launch) (ws : jW) (p0 : Int32) (p1 : Int32) (r : Int32) (h : m_X_pick p0 p1 = some r) : JMet l vwCl NsG (.code y_X_pick prog_1_method_26_code 4 (some .int) :: TsG) y_X_pick rm_X_pick [.int p0, .int p1] ws (fun v w => v = some (.int r) ∧ w = ws) := by
  refine J_enter (by decide +kernel) rfl (Nat.le_of_ble_eq_true rfl) ?_
  unfold m_X_pick at h
  refine J_eq (ls' := [some (.int p0), some (.int p1), none, none]) rfl rfl rfl rfl ?_
  refine J_iload_n d_X_pick_0 rfl ?_
  refine J_istore_n d_X_pick_1 (by decide) ?_
  refine J_iconst (v := (0 : Int32)) d_X_pick_2 (by decide) ?_
  refine J_istore_n d_X_pick_3 (by decide) ?_
  refine JL_X_pick_4 l _ _ _ r (fun _ o3 o4 o5 h => ?_) jF _ _ _ h
  refine J_bipush (v := (-6 : Int32)) d_X_pick_33 (by decide) ?_
  exact J_iret d_X_pick_35 rfl rfl (by cases h; exact ⟨rfl, rfl⟩)
abbrev rm_XO_directlyAbove : Room := { frames := 2, cells := 0, slots := 0, locals := 41 }
abbrev K_XO_directlyAbove (l : Launch) := JW l vwCl NsG TsG "ClassifySort$Order" prog_4_method_11_code 5 (some .int) rm_XO_directlyAbove
def L_XO_directlyAbove_19 (s : jS) (a : jB) (c2 : Int32) (k63 : Int32 → Option (Int32)) : Nat → Int32 → Int32 → Option (Int32)
  | 0, _, _ => none
  | f + 1, x3, x4 => (if (20 : Int32) ≤ x4 then k63 (x3) else jb (m_X_has c2 x4) (fun v4 => (if v4 = (0 : Int32) then L_XO_directlyAbove_19 s a c2 k63 f (x3) ((x4 + (1 : Int32))) else jb (m_XK_strictlyBelow s a x4) (fun v6 => (if (c2 &&& v6) = (0 : Int32) then jb (m_X_bit x4) (fun v8 => L_XO_directlyAbove_19 s a c2 k63 f ((x3 ||| v8)) ((x4 + (1 : Int32)))) else L_XO_directlyAbove_19 s a c2 k63 f (x3) ((x4 + (1 : Int32))))))))
set_option maxRecDepth 100000 in
set_option maxHeartbeats 4000000 in
theorem JL_XO_directlyAbove_19 (l : Launch) (s : jS) (a : jB) (c2 : Int32) (k63 : Int32 → Option (Int32)) (r : Int32) (hk63 : ∀ (x3 : Int32) (o1 : Option Value) (o4 : Option Value), k63 x3 = some r → K_XO_directlyAbove l 63 [some (.ref 11), o1, some (.int c2), some (.int x3), o4] [] (wX s a) (fun v w => v = some (.int r) ∧ w = wX s a)) : ∀ (f : Nat), ∀ (x3 : Int32) (x4 : Int32) (o1 : Option Value), L_XO_directlyAbove_19 s a c2 k63 f x3 x4 = some r → K_XO_directlyAbove l 19 [some (.ref 11), o1, some (.int c2), some (.int x3), some (.int x4)] [] (wX s a) (fun v w => v = some (.int r) ∧ w = wX s a) := by
  intro f
  induction f with
  | zero =>
    intro x3 x4 o1 h
    cases h
  | succ f ih =>
    intro x3 x4 o1 h
    rw [L_XO_directlyAbove_19] at h
    refine J_iload d_XO_directlyAbove_19 rfl ?_
    refine J_bipush (v := (20 : Int32)) d_XO_directlyAbove_21 (by decide) ?_
    refine J_icmp_ge (tgt := 63) d_XO_directlyAbove_23 (by decide) (fun c => ?_) (fun c => ?_)
    · have h := j_ifp c h
      exact hk63 _ _ _ h
    · have h := j_ifn c h
      refine J_iload_n d_XO_directlyAbove_26 rfl ?_
      refine J_iload d_XO_directlyAbove_27 rfl ?_
      obtain ⟨v4, e3, h⟩ := jb_some h
      refine J_cSi2N d_XO_directlyAbove_29 (c_X_has l _ _ _ _ e3) ts_8 ts_good rfl rfl ts_4 ns_6 dy_X_has (by decide) (Nat.le_of_ble_eq_true rfl) ts_9 ?_
      refine J_if_eq (tgt := 57) d_XO_directlyAbove_32 (by decide) (fun c => ?_) (fun c => ?_)
      · have h := j_ifp c h
        refine J_iinc (v := (x4 + (1 : Int32))) d_XO_directlyAbove_57 rfl (by first | rfl | decide) (by decide) ?_
        refine J_goto (tgt := 19) d_XO_directlyAbove_60 (by decide) ?_
        exact ih _ _ _ h
      · have h := j_ifn c h
        refine J_iload_n d_XO_directlyAbove_35 rfl ?_
        refine J_aload_n d_XO_directlyAbove_36 rfl ?_
        refine J_get (j := 0) (v := .ref 6) d_XO_directlyAbove_37 (wX_at11 _ _) rfl in_4 (by decide) ts_151 rfl ?_
        refine J_iload d_XO_directlyAbove_40 rfl ?_
        obtain ⟨v6, e5, h⟩ := jb_some h
        refine J_cVi1 d_XO_directlyAbove_42 (c_XK_strictlyBelow l _ _ _ _ e5) (wX_at6 _ _) rfl ts_184 ts_good rfl rfl ts_11 ts_185 dy_XK_strictlyBelow (by decide) (Nat.le_of_ble_eq_true rfl) ts_186 ts_187 ?_
        refine J_iand d_XO_directlyAbove_45 ?_
        refine J_if_ne (tgt := 57) d_XO_directlyAbove_46 (by decide) (fun c => ?_) (fun c => ?_)
        · have h := j_ifn c h
          refine J_iinc (v := (x4 + (1 : Int32))) d_XO_directlyAbove_57 rfl (by first | rfl | decide) (by decide) ?_
          refine J_goto (tgt := 19) d_XO_directlyAbove_60 (by decide) ?_
          exact ih _ _ _ h
        · have h := j_ifp c h
          refine J_iload_n d_XO_directlyAbove_49 rfl ?_
          refine J_iload d_XO_directlyAbove_50 rfl ?_
          obtain ⟨v8, e7, h⟩ := jb_some h
          refine J_cSi1N d_XO_directlyAbove_52 (c_X_bit l _ _ _ e7) ts_3 ts_good rfl rfl ts_4 ns_5 dy_X_bit (by decide) (Nat.le_of_ble_eq_true rfl) ts_5 ?_
          refine J_ior d_XO_directlyAbove_55 ?_
          refine J_istore_n d_XO_directlyAbove_56 (by decide) ?_
          refine J_iinc (v := (x4 + (1 : Int32))) d_XO_directlyAbove_57 rfl (by first | rfl | decide) (by decide) ?_
          refine J_goto (tgt := 19) d_XO_directlyAbove_60 (by decide) ?_
          exact ih _ _ _ h
def m_XO_directlyAbove (s : jS) (a : jB) (p0 : Int32) : Option (Int32) := jb (m_XK_strictlyAbove s a p0) (fun v2 => L_XO_directlyAbove_19 (s) (a) ((v2 &&& (s 9))) (fun x9 => some (x9)) jF ((0 : Int32)) ((0 : Int32)))
set_option maxRecDepth 100000 in
set_option maxHeartbeats 4000000 in
theorem c_XO_directlyAbove (l : Launch) (s : jS) (a : jB) (p0 : Int32) (r : Int32) (h : m_XO_directlyAbove s a p0 = some r) : JMet l vwCl NsG (.code y_XO_directlyAbove prog_4_method_11_code 5 (some .int) :: TsG) y_XO_directlyAbove rm_XO_directlyAbove [.ref 11, .int p0] (wX s a) (fun v w => v = some (.int r) ∧ w = wX s a) := by
  refine J_enter (by decide +kernel) rfl (Nat.le_of_ble_eq_true rfl) ?_
  unfold m_XO_directlyAbove at h
  refine J_eq (ls' := [some (.ref 11), some (.int p0), none, none, none]) rfl rfl rfl rfl ?_
  refine J_aload_n d_XO_directlyAbove_0 rfl ?_
  refine J_get (j := 0) (v := .ref 6) d_XO_directlyAbove_1 (wX_at11 _ _) rfl in_4 (by decide) ts_151 rfl ?_
  refine J_iload_n d_XO_directlyAbove_4 rfl ?_
  obtain ⟨v2, e1, h⟩ := jb_some h
  refine J_cVi1 d_XO_directlyAbove_5 (c_XK_strictlyAbove l _ _ _ _ e1) (wX_at6 _ _) rfl ts_168 ts_good rfl rfl ts_11 ts_169 dy_XK_strictlyAbove (by decide) (Nat.le_of_ble_eq_true rfl) ts_170 ts_171 ?_
  refine J_aload_n d_XO_directlyAbove_8 rfl ?_
  refine J_get (j := 2) (v := .int (s 9)) d_XO_directlyAbove_9 (wX_at11 _ _) rfl in_4 (by decide) ts_148 rfl ?_
  refine J_iand d_XO_directlyAbove_12 ?_
  refine J_istore_n d_XO_directlyAbove_13 (by decide) ?_
  refine J_iconst (v := (0 : Int32)) d_XO_directlyAbove_14 (by decide) ?_
  refine J_istore_n d_XO_directlyAbove_15 (by decide) ?_
  refine J_iconst (v := (0 : Int32)) d_XO_directlyAbove_16 (by decide) ?_
  refine J_istore d_XO_directlyAbove_17 (by decide) ?_
  refine JL_XO_directlyAbove_19 l _ _ _ _ r (fun x9 o10 o11 h => ?_) jF _ _ _ h
  refine J_iload_n d_XO_directlyAbove_63 rfl ?_
  exact J_iret d_XO_directlyAbove_64 rfl rfl (by cases h; exact ⟨rfl, rfl⟩)
abbrev rm_XO_directlyBelow : Room := { frames := 2, cells := 0, slots := 0, locals := 41 }
abbrev K_XO_directlyBelow (l : Launch) := JW l vwCl NsG TsG "ClassifySort$Order" prog_4_method_12_code 5 (some .int) rm_XO_directlyBelow
def L_XO_directlyBelow_19 (s : jS) (a : jB) (c2 : Int32) (k63 : Int32 → Option (Int32)) : Nat → Int32 → Int32 → Option (Int32)
  | 0, _, _ => none
  | f + 1, x3, x4 => (if (20 : Int32) ≤ x4 then k63 (x3) else jb (m_X_has c2 x4) (fun v4 => (if v4 = (0 : Int32) then L_XO_directlyBelow_19 s a c2 k63 f (x3) ((x4 + (1 : Int32))) else jb (m_XK_strictlyAbove s a x4) (fun v6 => (if (c2 &&& v6) = (0 : Int32) then jb (m_X_bit x4) (fun v8 => L_XO_directlyBelow_19 s a c2 k63 f ((x3 ||| v8)) ((x4 + (1 : Int32)))) else L_XO_directlyBelow_19 s a c2 k63 f (x3) ((x4 + (1 : Int32))))))))
set_option maxRecDepth 100000 in
set_option maxHeartbeats 4000000 in
theorem JL_XO_directlyBelow_19 (l : Launch) (s : jS) (a : jB) (c2 : Int32) (k63 : Int32 → Option (Int32)) (r : Int32) (hk63 : ∀ (x3 : Int32) (o1 : Option Value) (o4 : Option Value), k63 x3 = some r → K_XO_directlyBelow l 63 [some (.ref 11), o1, some (.int c2), some (.int x3), o4] [] (wX s a) (fun v w => v = some (.int r) ∧ w = wX s a)) : ∀ (f : Nat), ∀ (x3 : Int32) (x4 : Int32) (o1 : Option Value), L_XO_directlyBelow_19 s a c2 k63 f x3 x4 = some r → K_XO_directlyBelow l 19 [some (.ref 11), o1, some (.int c2), some (.int x3), some (.int x4)] [] (wX s a) (fun v w => v = some (.int r) ∧ w = wX s a) := by
  intro f
  induction f with
  | zero =>
    intro x3 x4 o1 h
    cases h
  | succ f ih =>
    intro x3 x4 o1 h
    rw [L_XO_directlyBelow_19] at h
    refine J_iload d_XO_directlyBelow_19 rfl ?_
    refine J_bipush (v := (20 : Int32)) d_XO_directlyBelow_21 (by decide) ?_
    refine J_icmp_ge (tgt := 63) d_XO_directlyBelow_23 (by decide) (fun c => ?_) (fun c => ?_)
    · have h := j_ifp c h
      exact hk63 _ _ _ h
    · have h := j_ifn c h
      refine J_iload_n d_XO_directlyBelow_26 rfl ?_
      refine J_iload d_XO_directlyBelow_27 rfl ?_
      obtain ⟨v4, e3, h⟩ := jb_some h
      refine J_cSi2N d_XO_directlyBelow_29 (c_X_has l _ _ _ _ e3) ts_8 ts_good rfl rfl ts_4 ns_6 dy_X_has (by decide) (Nat.le_of_ble_eq_true rfl) ts_9 ?_
      refine J_if_eq (tgt := 57) d_XO_directlyBelow_32 (by decide) (fun c => ?_) (fun c => ?_)
      · have h := j_ifp c h
        refine J_iinc (v := (x4 + (1 : Int32))) d_XO_directlyBelow_57 rfl (by first | rfl | decide) (by decide) ?_
        refine J_goto (tgt := 19) d_XO_directlyBelow_60 (by decide) ?_
        exact ih _ _ _ h
      · have h := j_ifn c h
        refine J_iload_n d_XO_directlyBelow_35 rfl ?_
        refine J_aload_n d_XO_directlyBelow_36 rfl ?_
        refine J_get (j := 0) (v := .ref 6) d_XO_directlyBelow_37 (wX_at11 _ _) rfl in_4 (by decide) ts_151 rfl ?_
        refine J_iload d_XO_directlyBelow_40 rfl ?_
        obtain ⟨v6, e5, h⟩ := jb_some h
        refine J_cVi1 d_XO_directlyBelow_42 (c_XK_strictlyAbove l _ _ _ _ e5) (wX_at6 _ _) rfl ts_168 ts_good rfl rfl ts_11 ts_169 dy_XK_strictlyAbove (by decide) (Nat.le_of_ble_eq_true rfl) ts_170 ts_171 ?_
        refine J_iand d_XO_directlyBelow_45 ?_
        refine J_if_ne (tgt := 57) d_XO_directlyBelow_46 (by decide) (fun c => ?_) (fun c => ?_)
        · have h := j_ifn c h
          refine J_iinc (v := (x4 + (1 : Int32))) d_XO_directlyBelow_57 rfl (by first | rfl | decide) (by decide) ?_
          refine J_goto (tgt := 19) d_XO_directlyBelow_60 (by decide) ?_
          exact ih _ _ _ h
        · have h := j_ifp c h
          refine J_iload_n d_XO_directlyBelow_49 rfl ?_
          refine J_iload d_XO_directlyBelow_50 rfl ?_
          obtain ⟨v8, e7, h⟩ := jb_some h
          refine J_cSi1N d_XO_directlyBelow_52 (c_X_bit l _ _ _ e7) ts_3 ts_good rfl rfl ts_4 ns_5 dy_X_bit (by decide) (Nat.le_of_ble_eq_true rfl) ts_5 ?_
          refine J_ior d_XO_directlyBelow_55 ?_
          refine J_istore_n d_XO_directlyBelow_56 (by decide) ?_
          refine J_iinc (v := (x4 + (1 : Int32))) d_XO_directlyBelow_57 rfl (by first | rfl | decide) (by decide) ?_
          refine J_goto (tgt := 19) d_XO_directlyBelow_60 (by decide) ?_
          exact ih _ _ _ h
def m_XO_directlyBelow (s : jS) (a : jB) (p0 : Int32) : Option (Int32) := jb (m_XK_strictlyBelow s a p0) (fun v2 => L_XO_directlyBelow_19 (s) (a) ((v2 &&& (s 9))) (fun x9 => some (x9)) jF ((0 : Int32)) ((0 : Int32)))
set_option maxRecDepth 100000 in
set_option maxHeartbeats 4000000 in
theorem c_XO_directlyBelow (l : Launch) (s : jS) (a : jB) (p0 : Int32) (r : Int32) (h : m_XO_directlyBelow s a p0 = some r) : JMet l vwCl NsG (.code y_XO_directlyBelow prog_4_method_12_code 5 (some .int) :: TsG) y_XO_directlyBelow rm_XO_directlyBelow [.ref 11, .int p0] (wX s a) (fun v w => v = some (.int r) ∧ w = wX s a) := by
  refine J_enter (by decide +kernel) rfl (Nat.le_of_ble_eq_true rfl) ?_
  unfold m_XO_directlyBelow at h
  refine J_eq (ls' := [some (.ref 11), some (.int p0), none, none, none]) rfl rfl rfl rfl ?_
  refine J_aload_n d_XO_directlyBelow_0 rfl ?_
  refine J_get (j := 0) (v := .ref 6) d_XO_directlyBelow_1 (wX_at11 _ _) rfl in_4 (by decide) ts_151 rfl ?_
  refine J_iload_n d_XO_directlyBelow_4 rfl ?_
  obtain ⟨v2, e1, h⟩ := jb_some h
  refine J_cVi1 d_XO_directlyBelow_5 (c_XK_strictlyBelow l _ _ _ _ e1) (wX_at6 _ _) rfl ts_184 ts_good rfl rfl ts_11 ts_185 dy_XK_strictlyBelow (by decide) (Nat.le_of_ble_eq_true rfl) ts_186 ts_187 ?_
  refine J_aload_n d_XO_directlyBelow_8 rfl ?_
  refine J_get (j := 2) (v := .int (s 9)) d_XO_directlyBelow_9 (wX_at11 _ _) rfl in_4 (by decide) ts_148 rfl ?_
  refine J_iand d_XO_directlyBelow_12 ?_
  refine J_istore_n d_XO_directlyBelow_13 (by decide) ?_
  refine J_iconst (v := (0 : Int32)) d_XO_directlyBelow_14 (by decide) ?_
  refine J_istore_n d_XO_directlyBelow_15 (by decide) ?_
  refine J_iconst (v := (0 : Int32)) d_XO_directlyBelow_16 (by decide) ?_
  refine J_istore d_XO_directlyBelow_17 (by decide) ?_
  refine JL_XO_directlyBelow_19 l _ _ _ _ r (fun x9 o10 o11 h => ?_) jF _ _ _ h
  refine J_iload_n d_XO_directlyBelow_63 rfl ?_
  exact J_iret d_XO_directlyBelow_64 rfl rfl (by cases h; exact ⟨rfl, rfl⟩)
abbrev rm_XO_lowestAmong : Room := { frames := 3, cells := 0, slots := 0, locals := 65 }
abbrev K_XO_lowestAmong (l : Launch) := JW l vwCl NsG TsG "ClassifySort$Order" prog_4_method_14_code 4 (some .int) rm_XO_lowestAmong
def L_XO_lowestAmong_4 (s : jS) (a : jB) (c1 : Int32) (k46 : Int32 → Option (Int32)) : Nat → Int32 → Int32 → Option (Int32)
  | 0, _, _ => none
  | f + 1, x2, x3 => (if (20 : Int32) ≤ x3 then k46 (x2) else jb (m_X_has (c1 &&& (s 9)) x3) (fun v2 => (if v2 = (0 : Int32) then L_XO_lowestAmong_4 s a c1 k46 f (x2) ((x3 + (1 : Int32))) else jb (m_XO_directlyBelow s a x3) (fun v4 => (if (v4 &&& c1) = (0 : Int32) then jb (m_X_bit x3) (fun v6 => L_XO_lowestAmong_4 s a c1 k46 f ((x2 ||| v6)) ((x3 + (1 : Int32)))) else L_XO_lowestAmong_4 s a c1 k46 f (x2) ((x3 + (1 : Int32))))))))
set_option maxRecDepth 100000 in
set_option maxHeartbeats 4000000 in
theorem JL_XO_lowestAmong_4 (l : Launch) (s : jS) (a : jB) (c1 : Int32) (k46 : Int32 → Option (Int32)) (r : Int32) (hk46 : ∀ (x2 : Int32) (o3 : Option Value), k46 x2 = some r → K_XO_lowestAmong l 46 [some (.ref 11), some (.int c1), some (.int x2), o3] [] (wX s a) (fun v w => v = some (.int r) ∧ w = wX s a)) : ∀ (f : Nat), ∀ (x2 : Int32) (x3 : Int32), L_XO_lowestAmong_4 s a c1 k46 f x2 x3 = some r → K_XO_lowestAmong l 4 [some (.ref 11), some (.int c1), some (.int x2), some (.int x3)] [] (wX s a) (fun v w => v = some (.int r) ∧ w = wX s a) := by
  intro f
  induction f with
  | zero =>
    intro x2 x3 h
    cases h
  | succ f ih =>
    intro x2 x3 h
    rw [L_XO_lowestAmong_4] at h
    refine J_iload_n d_XO_lowestAmong_4 rfl ?_
    refine J_bipush (v := (20 : Int32)) d_XO_lowestAmong_5 (by decide) ?_
    refine J_icmp_ge (tgt := 46) d_XO_lowestAmong_7 (by decide) (fun c => ?_) (fun c => ?_)
    · have h := j_ifp c h
      exact hk46 _ _ h
    · have h := j_ifn c h
      refine J_iload_n d_XO_lowestAmong_10 rfl ?_
      refine J_aload_n d_XO_lowestAmong_11 rfl ?_
      refine J_get (j := 2) (v := .int (s 9)) d_XO_lowestAmong_12 (wX_at11 _ _) rfl in_4 (by decide) ts_148 rfl ?_
      refine J_iand d_XO_lowestAmong_15 ?_
      refine J_iload_n d_XO_lowestAmong_16 rfl ?_
      obtain ⟨v2, e1, h⟩ := jb_some h
      refine J_cSi2N d_XO_lowestAmong_17 (c_X_has l _ _ _ _ e1) ts_8 ts_good rfl rfl ts_4 ns_6 dy_X_has (by decide) (Nat.le_of_ble_eq_true rfl) ts_9 ?_
      refine J_if_eq (tgt := 40) d_XO_lowestAmong_20 (by decide) (fun c => ?_) (fun c => ?_)
      · have h := j_ifp c h
        refine J_iinc (v := (x3 + (1 : Int32))) d_XO_lowestAmong_40 rfl (by first | rfl | decide) (by decide) ?_
        refine J_goto (tgt := 4) d_XO_lowestAmong_43 (by decide) ?_
        exact ih _ _ h
      · have h := j_ifn c h
        refine J_aload_n d_XO_lowestAmong_23 rfl ?_
        refine J_iload_n d_XO_lowestAmong_24 rfl ?_
        obtain ⟨v4, e3, h⟩ := jb_some h
        refine J_cVi1 d_XO_lowestAmong_25 (c_XO_directlyBelow l _ _ _ _ e3) (wX_at11 _ _) rfl ts_221 ts_good rfl rfl ts_160 ts_222 dy_XO_directlyBelow (by decide) (Nat.le_of_ble_eq_true rfl) ts_223 ts_224 ?_
        refine J_iload_n d_XO_lowestAmong_28 rfl ?_
        refine J_iand d_XO_lowestAmong_29 ?_
        refine J_if_ne (tgt := 40) d_XO_lowestAmong_30 (by decide) (fun c => ?_) (fun c => ?_)
        · have h := j_ifn c h
          refine J_iinc (v := (x3 + (1 : Int32))) d_XO_lowestAmong_40 rfl (by first | rfl | decide) (by decide) ?_
          refine J_goto (tgt := 4) d_XO_lowestAmong_43 (by decide) ?_
          exact ih _ _ h
        · have h := j_ifp c h
          refine J_iload_n d_XO_lowestAmong_33 rfl ?_
          refine J_iload_n d_XO_lowestAmong_34 rfl ?_
          obtain ⟨v6, e5, h⟩ := jb_some h
          refine J_cSi1N d_XO_lowestAmong_35 (c_X_bit l _ _ _ e5) ts_3 ts_good rfl rfl ts_4 ns_5 dy_X_bit (by decide) (Nat.le_of_ble_eq_true rfl) ts_5 ?_
          refine J_ior d_XO_lowestAmong_38 ?_
          refine J_istore_n d_XO_lowestAmong_39 (by decide) ?_
          refine J_iinc (v := (x3 + (1 : Int32))) d_XO_lowestAmong_40 rfl (by first | rfl | decide) (by decide) ?_
          refine J_goto (tgt := 4) d_XO_lowestAmong_43 (by decide) ?_
          exact ih _ _ h
def m_XO_lowestAmong (s : jS) (a : jB) (p0 : Int32) : Option (Int32) := L_XO_lowestAmong_4 (s) (a) (p0) (fun x7 => some (x7)) jF ((0 : Int32)) ((0 : Int32))
set_option maxRecDepth 100000 in
set_option maxHeartbeats 4000000 in
theorem c_XO_lowestAmong (l : Launch) (s : jS) (a : jB) (p0 : Int32) (r : Int32) (h : m_XO_lowestAmong s a p0 = some r) : JMet l vwCl NsG (.code y_XO_lowestAmong prog_4_method_14_code 4 (some .int) :: TsG) y_XO_lowestAmong rm_XO_lowestAmong [.ref 11, .int p0] (wX s a) (fun v w => v = some (.int r) ∧ w = wX s a) := by
  refine J_enter (by decide +kernel) rfl (Nat.le_of_ble_eq_true rfl) ?_
  unfold m_XO_lowestAmong at h
  refine J_eq (ls' := [some (.ref 11), some (.int p0), none, none]) rfl rfl rfl rfl ?_
  refine J_iconst (v := (0 : Int32)) d_XO_lowestAmong_0 (by decide) ?_
  refine J_istore_n d_XO_lowestAmong_1 (by decide) ?_
  refine J_iconst (v := (0 : Int32)) d_XO_lowestAmong_2 (by decide) ?_
  refine J_istore_n d_XO_lowestAmong_3 (by decide) ?_
  refine JL_XO_lowestAmong_4 l _ _ _ _ r (fun x7 o8 h => ?_) jF _ _ h
  refine J_iload_n d_XO_lowestAmong_46 rfl ?_
  exact J_iret d_XO_lowestAmong_47 rfl rfl (by cases h; exact ⟨rfl, rfl⟩)
abbrev rm_XO_lowest : Room := { frames := 4, cells := 0, slots := 0, locals := 88 }
abbrev K_XO_lowest (l : Launch) := JW l vwCl NsG TsG "ClassifySort$Order" prog_4_method_13_code 1 (some .int) rm_XO_lowest
def m_XO_lowest (s : jS) (a : jB) : Option (Int32) := jb (m_XO_lowestAmong s a (s 9)) (fun v2 => some (v2))
set_option maxRecDepth 100000 in
set_option maxHeartbeats 4000000 in
theorem c_XO_lowest (l : Launch) (s : jS) (a : jB) (r : Int32) (h : m_XO_lowest s a = some r) : JMet l vwCl NsG (.code y_XO_lowest prog_4_method_13_code 1 (some .int) :: TsG) y_XO_lowest rm_XO_lowest [.ref 11] (wX s a) (fun v w => v = some (.int r) ∧ w = wX s a) := by
  refine J_enter (by decide +kernel) rfl (Nat.le_of_ble_eq_true rfl) ?_
  unfold m_XO_lowest at h
  refine J_eq (ls' := [some (.ref 11)]) rfl rfl rfl rfl ?_
  refine J_aload_n d_XO_lowest_0 rfl ?_
  refine J_aload_n d_XO_lowest_1 rfl ?_
  refine J_get (j := 2) (v := .int (s 9)) d_XO_lowest_2 (wX_at11 _ _) rfl in_4 (by decide) ts_148 rfl ?_
  obtain ⟨v2, e1, h⟩ := jb_some h
  refine J_cVi1 d_XO_lowest_5 (c_XO_lowestAmong l _ _ _ _ e1) (wX_at11 _ _) rfl ts_225 ts_good rfl rfl ts_160 ts_226 dy_XO_lowestAmong (by decide) (Nat.le_of_ble_eq_true rfl) ts_227 ts_228 ?_
  exact J_iret d_XO_lowest_8 rfl rfl (by cases h; exact ⟨rfl, rfl⟩)
abbrev rm_X_parent : Room := { frames := 5, cells := 0, slots := 0, locals := 108 }
abbrev K_X_parent (l : Launch) := JW l vwCl NsG TsG "ClassifySort" prog_1_method_10_code 4 (some .int) rm_X_parent
def m_X_parent (s : jS) (a : jB) (p0 : Int32) (p1 : Int32) : Option (Int32) := jb (m_X_isClass s a p0) (fun v2 => (if v2 = (0 : Int32) then some ((-1 : Int32)) else (if (s 3) = (0 : Int32) then some ((-3 : Int32)) else jb (m_XO_isEmptyClass s a p0) (fun v4 => jb (if v4 = (0 : Int32) then jb (m_XO_directlyAbove s a p0) (fun v11 => some v11) else jb (m_XO_lowest s a) (fun v13 => some v13)) (fun b5 => jb (m_XO_firstOfSame s a b5) (fun v7 => jb (m_X_pick v7 p1) (fun v9 => some (v9))))))))
set_option maxRecDepth 100000 in
set_option maxHeartbeats 4000000 in
theorem c_X_parent (l : Launch) (s : jS) (a : jB) (p0 : Int32) (p1 : Int32) (r : Int32) (h : m_X_parent s a p0 p1 = some r) : JMet l vwCl NsG (.code y_X_parent prog_1_method_10_code 4 (some .int) :: TsG) y_X_parent rm_X_parent [.ref 0, .int p0, .int p1] (wX s a) (fun v w => v = some (.int r) ∧ w = wX s a) := by
  refine J_enter (by decide +kernel) rfl (Nat.le_of_ble_eq_true rfl) ?_
  unfold m_X_parent at h
  refine J_eq (ls' := [some (.ref 0), some (.int p0), some (.int p1), none]) rfl rfl rfl rfl ?_
  refine J_aload_n d_X_parent_0 rfl ?_
  refine J_iload_n d_X_parent_1 rfl ?_
  obtain ⟨v2, e1, h⟩ := jb_some h
  refine J_cVi1 d_X_parent_2 (c_X_isClass l _ _ _ _ e1) (wX_at0 _ _) rfl ts_30 ts_good rfl rfl ts_4 ts_31 dy_X_isClass (by decide) (Nat.le_of_ble_eq_true rfl) ts_32 ts_33 ?_
  refine J_if_ne (tgt := 10) d_X_parent_5 (by decide) (fun c => ?_) (fun c => ?_)
  · have h := j_ifn c h
    refine J_aload_n d_X_parent_10 rfl ?_
    refine J_get (j := 8) (v := .int (s 3)) d_X_parent_11 (wX_at0 _ _) rfl in_0 (by decide) ts_28 rfl ?_
    refine J_if_ne (tgt := 20) d_X_parent_14 (by decide) (fun c => ?_) (fun c => ?_)
    · have h := j_ifn c h
      refine J_aload_n d_X_parent_20 rfl ?_
      refine J_get (j := 3) (v := .ref 11) d_X_parent_21 (wX_at0 _ _) rfl in_0 (by decide) ts_147 rfl ?_
      refine J_iload_n d_X_parent_24 rfl ?_
      obtain ⟨v4, e3, h⟩ := jb_some h
      refine J_cVi1 d_X_parent_25 (c_XO_isEmptyClass l _ _ _ _ e3) (wX_at11 _ _) rfl ts_201 ts_good rfl rfl ts_160 ts_202 dy_XO_isEmptyClass (by decide) (Nat.le_of_ble_eq_true rfl) ts_203 ts_204 ?_
      obtain ⟨b5, hb5, h⟩ := jb_some h
      have kb5 : K_X_parent l 49 [some (.ref 0), some (.int p0), some (.int p1), none] [.int b5] (wX s a) (fun v w => v = some (.int r) ∧ w = wX s a) := by
        refine J_istore_n d_X_parent_49 (by decide) ?_
        refine J_aload_n d_X_parent_50 rfl ?_
        refine J_get (j := 3) (v := .ref 11) d_X_parent_51 (wX_at0 _ _) rfl in_0 (by decide) ts_147 rfl ?_
        refine J_iload_n d_X_parent_54 rfl ?_
        obtain ⟨v7, e6, h⟩ := jb_some h
        refine J_cVi1 d_X_parent_55 (c_XO_firstOfSame l _ _ _ _ e6) (wX_at11 _ _) rfl ts_209 ts_good rfl rfl ts_160 ts_210 dy_XO_firstOfSame (by decide) (Nat.le_of_ble_eq_true rfl) ts_211 ts_212 ?_
        refine J_iload_n d_X_parent_58 rfl ?_
        obtain ⟨v9, e8, h⟩ := jb_some h
        refine J_cSi2 d_X_parent_59 (c_X_pick l _ _ _ _ e8) ts_214 ts_good rfl rfl ts_4 ts_215 dy_X_pick (by decide) (Nat.le_of_ble_eq_true rfl) ts_216 ?_
        exact J_iret d_X_parent_62 rfl rfl (by cases h; exact ⟨rfl, rfl⟩)
      clear h
      have h := hb5
      refine J_if_eq (tgt := 41) d_X_parent_28 (by decide) (fun c => ?_) (fun c => ?_)
      · have h := j_ifp c h
        refine J_aload_n d_X_parent_41 rfl ?_
        refine J_get (j := 3) (v := .ref 11) d_X_parent_42 (wX_at0 _ _) rfl in_0 (by decide) ts_147 rfl ?_
        refine J_iload_n d_X_parent_45 rfl ?_
        obtain ⟨v11, e10, h⟩ := jb_some h
        refine J_cVi1 d_X_parent_46 (c_XO_directlyAbove l _ _ _ _ e10) (wX_at11 _ _) rfl ts_217 ts_good rfl rfl ts_160 ts_218 dy_XO_directlyAbove (by decide) (Nat.le_of_ble_eq_true rfl) ts_219 ts_220 ?_
        cases h
        exact kb5
      · have h := j_ifn c h
        refine J_aload_n d_X_parent_31 rfl ?_
        refine J_get (j := 3) (v := .ref 11) d_X_parent_32 (wX_at0 _ _) rfl in_0 (by decide) ts_147 rfl ?_
        obtain ⟨v13, e12, h⟩ := jb_some h
        refine J_cVi0 d_X_parent_35 (c_XO_lowest l _ _ _ e12) (wX_at11 _ _) rfl ts_229 ts_good rfl rfl ts_160 ts_230 dy_XO_lowest (by decide) (Nat.le_of_ble_eq_true rfl) ts_231 ts_232 ?_
        refine J_goto (tgt := 49) d_X_parent_38 (by decide) ?_
        cases h
        exact kb5
    · have h := j_ifp c h
      refine J_bipush (v := (-3 : Int32)) d_X_parent_17 (by decide) ?_
      exact J_iret d_X_parent_19 rfl rfl (by cases h; exact ⟨rfl, rfl⟩)
  · have h := j_ifp c h
    refine J_iconst (v := (-1 : Int32)) d_X_parent_8 (by decide) ?_
    exact J_iret d_X_parent_9 rfl rfl (by cases h; exact ⟨rfl, rfl⟩)
abbrev rm_X_child : Room := { frames := 3, cells := 0, slots := 0, locals := 65 }
abbrev K_X_child (l : Launch) := JW l vwCl NsG TsG "ClassifySort" prog_1_method_11_code 4 (some .int) rm_X_child
def m_X_child (s : jS) (a : jB) (p0 : Int32) (p1 : Int32) : Option (Int32) := jb (m_X_isClass s a p0) (fun v2 => (if v2 = (0 : Int32) then some ((-1 : Int32)) else (if (s 3) = (0 : Int32) then some ((-3 : Int32)) else jb (m_XO_isEmptyClass s a p0) (fun v4 => jb (if v4 = (0 : Int32) then jb (m_XO_directlyBelow s a p0) (fun v11 => some v11) else some (0 : Int32)) (fun b5 => jb (m_XO_firstOfSame s a b5) (fun v7 => jb (m_X_pick v7 p1) (fun v9 => some (v9))))))))
set_option maxRecDepth 100000 in
set_option maxHeartbeats 4000000 in
theorem c_X_child (l : Launch) (s : jS) (a : jB) (p0 : Int32) (p1 : Int32) (r : Int32) (h : m_X_child s a p0 p1 = some r) : JMet l vwCl NsG (.code y_X_child prog_1_method_11_code 4 (some .int) :: TsG) y_X_child rm_X_child [.ref 0, .int p0, .int p1] (wX s a) (fun v w => v = some (.int r) ∧ w = wX s a) := by
  refine J_enter (by decide +kernel) rfl (Nat.le_of_ble_eq_true rfl) ?_
  unfold m_X_child at h
  refine J_eq (ls' := [some (.ref 0), some (.int p0), some (.int p1), none]) rfl rfl rfl rfl ?_
  refine J_aload_n d_X_child_0 rfl ?_
  refine J_iload_n d_X_child_1 rfl ?_
  obtain ⟨v2, e1, h⟩ := jb_some h
  refine J_cVi1 d_X_child_2 (c_X_isClass l _ _ _ _ e1) (wX_at0 _ _) rfl ts_30 ts_good rfl rfl ts_4 ts_31 dy_X_isClass (by decide) (Nat.le_of_ble_eq_true rfl) ts_32 ts_33 ?_
  refine J_if_ne (tgt := 10) d_X_child_5 (by decide) (fun c => ?_) (fun c => ?_)
  · have h := j_ifn c h
    refine J_aload_n d_X_child_10 rfl ?_
    refine J_get (j := 8) (v := .int (s 3)) d_X_child_11 (wX_at0 _ _) rfl in_0 (by decide) ts_28 rfl ?_
    refine J_if_ne (tgt := 20) d_X_child_14 (by decide) (fun c => ?_) (fun c => ?_)
    · have h := j_ifn c h
      refine J_aload_n d_X_child_20 rfl ?_
      refine J_get (j := 3) (v := .ref 11) d_X_child_21 (wX_at0 _ _) rfl in_0 (by decide) ts_147 rfl ?_
      refine J_iload_n d_X_child_24 rfl ?_
      obtain ⟨v4, e3, h⟩ := jb_some h
      refine J_cVi1 d_X_child_25 (c_XO_isEmptyClass l _ _ _ _ e3) (wX_at11 _ _) rfl ts_201 ts_good rfl rfl ts_160 ts_202 dy_XO_isEmptyClass (by decide) (Nat.le_of_ble_eq_true rfl) ts_203 ts_204 ?_
      obtain ⟨b5, hb5, h⟩ := jb_some h
      have kb5 : K_X_child l 43 [some (.ref 0), some (.int p0), some (.int p1), none] [.int b5] (wX s a) (fun v w => v = some (.int r) ∧ w = wX s a) := by
        refine J_istore_n d_X_child_43 (by decide) ?_
        refine J_aload_n d_X_child_44 rfl ?_
        refine J_get (j := 3) (v := .ref 11) d_X_child_45 (wX_at0 _ _) rfl in_0 (by decide) ts_147 rfl ?_
        refine J_iload_n d_X_child_48 rfl ?_
        obtain ⟨v7, e6, h⟩ := jb_some h
        refine J_cVi1 d_X_child_49 (c_XO_firstOfSame l _ _ _ _ e6) (wX_at11 _ _) rfl ts_209 ts_good rfl rfl ts_160 ts_210 dy_XO_firstOfSame (by decide) (Nat.le_of_ble_eq_true rfl) ts_211 ts_212 ?_
        refine J_iload_n d_X_child_52 rfl ?_
        obtain ⟨v9, e8, h⟩ := jb_some h
        refine J_cSi2 d_X_child_53 (c_X_pick l _ _ _ _ e8) ts_214 ts_good rfl rfl ts_4 ts_215 dy_X_pick (by decide) (Nat.le_of_ble_eq_true rfl) ts_216 ?_
        exact J_iret d_X_child_56 rfl rfl (by cases h; exact ⟨rfl, rfl⟩)
      clear h
      have h := hb5
      refine J_if_eq (tgt := 35) d_X_child_28 (by decide) (fun c => ?_) (fun c => ?_)
      · have h := j_ifp c h
        refine J_aload_n d_X_child_35 rfl ?_
        refine J_get (j := 3) (v := .ref 11) d_X_child_36 (wX_at0 _ _) rfl in_0 (by decide) ts_147 rfl ?_
        refine J_iload_n d_X_child_39 rfl ?_
        obtain ⟨v11, e10, h⟩ := jb_some h
        refine J_cVi1 d_X_child_40 (c_XO_directlyBelow l _ _ _ _ e10) (wX_at11 _ _) rfl ts_221 ts_good rfl rfl ts_160 ts_233 dy_XO_directlyBelow (by decide) (Nat.le_of_ble_eq_true rfl) ts_223 ts_224 ?_
        cases h
        exact kb5
      · have h := j_ifn c h
        refine J_iconst (v := (0 : Int32)) d_X_child_31 (by decide) ?_
        refine J_goto (tgt := 43) d_X_child_32 (by decide) ?_
        cases h
        exact kb5
    · have h := j_ifp c h
      refine J_bipush (v := (-3 : Int32)) d_X_child_17 (by decide) ?_
      exact J_iret d_X_child_19 rfl rfl (by cases h; exact ⟨rfl, rfl⟩)
  · have h := j_ifp c h
    refine J_iconst (v := (-1 : Int32)) d_X_child_8 (by decide) ?_
    exact J_iret d_X_child_9 rfl rfl (by cases h; exact ⟨rfl, rfl⟩)
abbrev rm_X_equal : Room := { frames := 3, cells := 0, slots := 0, locals := 64 }
abbrev K_X_equal (l : Launch) := JW l vwCl NsG TsG "ClassifySort" prog_1_method_12_code 3 (some .int) rm_X_equal
def m_X_equal (s : jS) (a : jB) (p0 : Int32) (p1 : Int32) : Option (Int32) := jb (m_X_isClass s a p0) (fun v2 => (if v2 = (0 : Int32) then some ((-1 : Int32)) else (if (s 3) = (0 : Int32) then some ((-3 : Int32)) else jb (m_XK_sameAs s a p0) (fun v4 => jb (m_X_bit (20 : Int32)) (fun v6 => jb (m_X_pick (v4 &&& (v6 ^^^ (-1 : Int32))) p1) (fun v8 => some (v8)))))))
set_option maxRecDepth 100000 in
set_option maxHeartbeats 4000000 in
theorem c_X_equal (l : Launch) (s : jS) (a : jB) (p0 : Int32) (p1 : Int32) (r : Int32) (h : m_X_equal s a p0 p1 = some r) : JMet l vwCl NsG (.code y_X_equal prog_1_method_12_code 3 (some .int) :: TsG) y_X_equal rm_X_equal [.ref 0, .int p0, .int p1] (wX s a) (fun v w => v = some (.int r) ∧ w = wX s a) := by
  refine J_enter (by decide +kernel) rfl (Nat.le_of_ble_eq_true rfl) ?_
  unfold m_X_equal at h
  refine J_eq (ls' := [some (.ref 0), some (.int p0), some (.int p1)]) rfl rfl rfl rfl ?_
  refine J_aload_n d_X_equal_0 rfl ?_
  refine J_iload_n d_X_equal_1 rfl ?_
  obtain ⟨v2, e1, h⟩ := jb_some h
  refine J_cVi1 d_X_equal_2 (c_X_isClass l _ _ _ _ e1) (wX_at0 _ _) rfl ts_30 ts_good rfl rfl ts_4 ts_31 dy_X_isClass (by decide) (Nat.le_of_ble_eq_true rfl) ts_32 ts_33 ?_
  refine J_if_ne (tgt := 10) d_X_equal_5 (by decide) (fun c => ?_) (fun c => ?_)
  · have h := j_ifn c h
    refine J_aload_n d_X_equal_10 rfl ?_
    refine J_get (j := 8) (v := .int (s 3)) d_X_equal_11 (wX_at0 _ _) rfl in_0 (by decide) ts_28 rfl ?_
    refine J_if_ne (tgt := 20) d_X_equal_14 (by decide) (fun c => ?_) (fun c => ?_)
    · have h := j_ifn c h
      refine J_aload_n d_X_equal_20 rfl ?_
      refine J_get (j := 2) (v := .ref 6) d_X_equal_21 (wX_at0 _ _) rfl in_0 (by decide) ts_1 rfl ?_
      refine J_iload_n d_X_equal_24 rfl ?_
      obtain ⟨v4, e3, h⟩ := jb_some h
      refine J_cVi1 d_X_equal_25 (c_XK_sameAs l _ _ _ _ e3) (wX_at6 _ _) rfl ts_205 ts_good rfl rfl ts_11 ts_234 dy_XK_sameAs (by decide) (Nat.le_of_ble_eq_true rfl) ts_207 ts_208 ?_
      refine J_bipush (v := (20 : Int32)) d_X_equal_28 (by decide) ?_
      obtain ⟨v6, e5, h⟩ := jb_some h
      refine J_cSi1 d_X_equal_30 (c_X_bit l _ _ _ e5) ts_3 ts_good rfl rfl ts_4 ts_7 dy_X_bit (by decide) (Nat.le_of_ble_eq_true rfl) ts_5 ?_
      refine J_iconst (v := (-1 : Int32)) d_X_equal_33 (by decide) ?_
      refine J_ixor d_X_equal_34 ?_
      refine J_iand d_X_equal_35 ?_
      refine J_iload_n d_X_equal_36 rfl ?_
      obtain ⟨v8, e7, h⟩ := jb_some h
      refine J_cSi2 d_X_equal_37 (c_X_pick l _ _ _ _ e7) ts_214 ts_good rfl rfl ts_4 ts_215 dy_X_pick (by decide) (Nat.le_of_ble_eq_true rfl) ts_216 ?_
      exact J_iret d_X_equal_40 rfl rfl (by cases h; exact ⟨rfl, rfl⟩)
    · have h := j_ifp c h
      refine J_bipush (v := (-3 : Int32)) d_X_equal_17 (by decide) ?_
      exact J_iret d_X_equal_19 rfl rfl (by cases h; exact ⟨rfl, rfl⟩)
  · have h := j_ifp c h
    refine J_iconst (v := (-1 : Int32)) d_X_equal_8 (by decide) ?_
    exact J_iret d_X_equal_9 rfl rfl (by cases h; exact ⟨rfl, rfl⟩)
abbrev rm_XO_emptyClasses : Room := { frames := 0, cells := 0, slots := 0, locals := 0 }
abbrev K_XO_emptyClasses (l : Launch) := JW l vwCl NsG TsG "ClassifySort$Order" prog_4_method_3_code 1 (some .int) rm_XO_emptyClasses
def m_XO_emptyClasses (s : jS) (a : jB) : Option (Int32) := some ((s 10))
set_option maxRecDepth 100000 in
set_option maxHeartbeats 4000000 in
theorem c_XO_emptyClasses (l : Launch) (s : jS) (a : jB) (r : Int32) (h : m_XO_emptyClasses s a = some r) : JMet l vwCl NsG (.code y_XO_emptyClasses prog_4_method_3_code 1 (some .int) :: TsG) y_XO_emptyClasses rm_XO_emptyClasses [.ref 11] (wX s a) (fun v w => v = some (.int r) ∧ w = wX s a) := by
  refine J_enter (by decide +kernel) rfl (Nat.le_of_ble_eq_true rfl) ?_
  unfold m_XO_emptyClasses at h
  refine J_eq (ls' := [some (.ref 11)]) rfl rfl rfl rfl ?_
  refine J_aload_n d_XO_emptyClasses_0 rfl ?_
  refine J_get (j := 3) (v := .int (s 10)) d_XO_emptyClasses_1 (wX_at11 _ _) rfl in_4 (by decide) ts_149 rfl ?_
  exact J_iret d_XO_emptyClasses_4 rfl rfl (by cases h; exact ⟨rfl, rfl⟩)
abbrev rm_X_empty : Room := { frames := 3, cells := 0, slots := 0, locals := 64 }
abbrev K_X_empty (l : Launch) := JW l vwCl NsG TsG "ClassifySort" prog_1_method_13_code 2 (some .int) rm_X_empty
def m_X_empty (s : jS) (a : jB) (p0 : Int32) : Option (Int32) := (if (s 3) = (0 : Int32) then some ((-3 : Int32)) else jb (m_XO_emptyClasses s a) (fun v2 => jb (m_X_pick v2 p0) (fun v4 => some (v4))))
set_option maxRecDepth 100000 in
set_option maxHeartbeats 4000000 in
theorem c_X_empty (l : Launch) (s : jS) (a : jB) (p0 : Int32) (r : Int32) (h : m_X_empty s a p0 = some r) : JMet l vwCl NsG (.code y_X_empty prog_1_method_13_code 2 (some .int) :: TsG) y_X_empty rm_X_empty [.ref 0, .int p0] (wX s a) (fun v w => v = some (.int r) ∧ w = wX s a) := by
  refine J_enter (by decide +kernel) rfl (Nat.le_of_ble_eq_true rfl) ?_
  unfold m_X_empty at h
  refine J_eq (ls' := [some (.ref 0), some (.int p0)]) rfl rfl rfl rfl ?_
  refine J_aload_n d_X_empty_0 rfl ?_
  refine J_get (j := 8) (v := .int (s 3)) d_X_empty_1 (wX_at0 _ _) rfl in_0 (by decide) ts_28 rfl ?_
  refine J_if_ne (tgt := 10) d_X_empty_4 (by decide) (fun c => ?_) (fun c => ?_)
  · have h := j_ifn c h
    refine J_aload_n d_X_empty_10 rfl ?_
    refine J_get (j := 3) (v := .ref 11) d_X_empty_11 (wX_at0 _ _) rfl in_0 (by decide) ts_147 rfl ?_
    obtain ⟨v2, e1, h⟩ := jb_some h
    refine J_cVi0 d_X_empty_14 (c_XO_emptyClasses l _ _ _ e1) (wX_at11 _ _) rfl ts_235 ts_good rfl rfl ts_160 ts_236 dy_XO_emptyClasses (by decide) (Nat.le_of_ble_eq_true rfl) ts_237 ts_238 ?_
    refine J_iload_n d_X_empty_17 rfl ?_
    obtain ⟨v4, e3, h⟩ := jb_some h
    refine J_cSi2 d_X_empty_18 (c_X_pick l _ _ _ _ e3) ts_214 ts_good rfl rfl ts_4 ts_215 dy_X_pick (by decide) (Nat.le_of_ble_eq_true rfl) ts_216 ?_
    exact J_iret d_X_empty_21 rfl rfl (by cases h; exact ⟨rfl, rfl⟩)
  · have h := j_ifp c h
    refine J_bipush (v := (-3 : Int32)) d_X_empty_7 (by decide) ?_
    exact J_iret d_X_empty_9 rfl rfl (by cases h; exact ⟨rfl, rfl⟩)
abbrev rm_XK_openOf : Room := { frames := 0, cells := 0, slots := 0, locals := 0 }
abbrev K_XK_openOf (l : Launch) := JW l vwCl NsG TsG "ClassifySort$Knowledge" prog_3_method_9_code 2 (some .int) rm_XK_openOf
def m_XK_openOf (s : jS) (a : jB) (p0 : Int32) : Option (Int32) := jg (jin p0 21) (some (((a 10) (p0).toNatClampNeg)))
set_option maxRecDepth 100000 in
set_option maxHeartbeats 4000000 in
theorem c_XK_openOf (l : Launch) (s : jS) (a : jB) (p0 : Int32) (r : Int32) (h : m_XK_openOf s a p0 = some r) : JMet l vwCl NsG (.code y_XK_openOf prog_3_method_9_code 2 (some .int) :: TsG) y_XK_openOf rm_XK_openOf [.ref 6, .int p0] (wX s a) (fun v w => v = some (.int r) ∧ w = wX s a) := by
  refine J_enter (by decide +kernel) rfl (Nat.le_of_ble_eq_true rfl) ?_
  unfold m_XK_openOf at h
  refine J_eq (ls' := [some (.ref 6), some (.int p0)]) rfl rfl rfl rfl ?_
  refine J_aload_n d_XK_openOf_0 rfl ?_
  refine J_get (j := 3) (v := .ref 10) d_XK_openOf_1 (wX_at6 _ _) rfl in_3 (by decide) ts_19 rfl ?_
  refine J_iload_n d_XK_openOf_4 rfl ?_
  obtain ⟨g, h⟩ := jg_some h
  refine J_iald (f := (a 10)) d_XK_openOf_5 (wX_at10 _ _) (jin_in g) ?_
  exact J_iret d_XK_openOf_6 rfl rfl (by cases h; exact ⟨rfl, rfl⟩)
abbrev rm_X_open : Room := { frames := 3, cells := 0, slots := 0, locals := 64 }
abbrev K_X_open (l : Launch) := JW l vwCl NsG TsG "ClassifySort" prog_1_method_14_code 6 (some .int) rm_X_open
def L_X_open_4 (s : jS) (a : jB) (k71 : Unit → Option (Int32)) : Nat → Int32 → Int32 → Option (Int32)
  | 0, _, _ => none
  | f + 1, x2, x3 => (if (s 0) ≤ x3 then k71 () else jb (m_XK_openOf s a x3) (fun v2 => jb (m_X_pick v2 x2) (fun v4 => (if v4 = (-6 : Int32) then jb (m_JI_bitCount v2) (fun v6 => L_X_open_4 s a k71 f ((x2 - v6)) ((x3 + (1 : Int32)))) else jb (if v4 = (20 : Int32) then some (31 : Int32) else some v4) (fun b7 => some ((((32 : Int32) * x3) + b7)))))))
set_option maxRecDepth 100000 in
set_option maxHeartbeats 4000000 in
theorem JL_X_open_4 (l : Launch) (s : jS) (a : jB) (k71 : Unit → Option (Int32)) (r : Int32) (hk71 : ∀ (_ : Unit) (o1 : Option Value) (o2 : Option Value) (o3 : Option Value) (o4 : Option Value) (o5 : Option Value), k71 () = some r → K_X_open l 71 [some (.ref 0), o1, o2, o3, o4, o5] [] (wX s a) (fun v w => v = some (.int r) ∧ w = wX s a)) : ∀ (f : Nat), ∀ (x2 : Int32) (x3 : Int32) (o1 : Option Value) (o4 : Option Value) (o5 : Option Value), L_X_open_4 s a k71 f x2 x3 = some r → K_X_open l 4 [some (.ref 0), o1, some (.int x2), some (.int x3), o4, o5] [] (wX s a) (fun v w => v = some (.int r) ∧ w = wX s a) := by
  intro f
  induction f with
  | zero =>
    intro x2 x3 o1 o4 o5 h
    cases h
  | succ f ih =>
    intro x2 x3 o1 o4 o5 h
    rw [L_X_open_4] at h
    refine J_iload_n d_X_open_4 rfl ?_
    refine J_aload_n d_X_open_5 rfl ?_
    refine J_get (j := 5) (v := .int (s 0)) d_X_open_6 (wX_at0 _ _) rfl in_0 (by decide) ts_0 rfl ?_
    refine J_icmp_ge (tgt := 71) d_X_open_9 (by decide) (fun c => ?_) (fun c => ?_)
    · have h := j_ifp c h
      exact hk71 () _ _ _ _ _ h
    · have h := j_ifn c h
      refine J_aload_n d_X_open_12 rfl ?_
      refine J_get (j := 2) (v := .ref 6) d_X_open_13 (wX_at0 _ _) rfl in_0 (by decide) ts_1 rfl ?_
      refine J_iload_n d_X_open_16 rfl ?_
      obtain ⟨v2, e1, h⟩ := jb_some h
      refine J_cVi1 d_X_open_17 (c_XK_openOf l _ _ _ _ e1) (wX_at6 _ _) rfl ts_239 ts_good rfl rfl ts_11 ts_240 dy_XK_openOf (by decide) (Nat.le_of_ble_eq_true rfl) ts_241 ts_242 ?_
      refine J_istore d_X_open_20 (by decide) ?_
      refine J_iload d_X_open_22 rfl ?_
      refine J_iload_n d_X_open_24 rfl ?_
      obtain ⟨v4, e3, h⟩ := jb_some h
      refine J_cSi2 d_X_open_25 (c_X_pick l _ _ _ _ e3) ts_214 ts_good rfl rfl ts_4 ts_215 dy_X_pick (by decide) (Nat.le_of_ble_eq_true rfl) ts_216 ?_
      refine J_istore d_X_open_28 (by decide) ?_
      refine J_iload d_X_open_30 rfl ?_
      refine J_bipush (v := (-6 : Int32)) d_X_open_32 (by decide) ?_
      refine J_icmp_eq (tgt := 57) d_X_open_34 (by decide) (fun c => ?_) (fun c => ?_)
      · have h := j_ifp c h
        refine J_iload_n d_X_open_57 rfl ?_
        refine J_iload d_X_open_58 rfl ?_
        obtain ⟨v6, e5, h⟩ := jb_some h
        refine J_cSi1 d_X_open_60 (c_JI_bitCount l _ _ _ e5) ts_72 ts_good rfl rfl ts_73 ts_74 dy_JI_bitCount (by decide) (Nat.le_of_ble_eq_true rfl) ts_75 ?_
        refine J_isub d_X_open_63 ?_
        refine J_istore_n d_X_open_64 (by decide) ?_
        refine J_iinc (v := (x3 + (1 : Int32))) d_X_open_65 rfl (by first | rfl | decide) (by decide) ?_
        refine J_goto (tgt := 4) d_X_open_68 (by decide) ?_
        exact ih _ _ _ _ _ h
      · have h := j_ifn c h
        refine J_bipush (v := (32 : Int32)) d_X_open_37 (by decide) ?_
        refine J_iload_n d_X_open_39 rfl ?_
        refine J_imul d_X_open_40 ?_
        refine J_iload d_X_open_41 rfl ?_
        refine J_bipush (v := (20 : Int32)) d_X_open_43 (by decide) ?_
        obtain ⟨b7, hb7, h⟩ := jb_some h
        have kb7 : K_X_open l 55 [some (.ref 0), o1, some (.int x2), some (.int x3), some (.int v2), some (.int v4)] [.int b7, .int ((32 : Int32) * x3)] (wX s a) (fun v w => v = some (.int r) ∧ w = wX s a) := by
          refine J_iadd d_X_open_55 ?_
          exact J_iret d_X_open_56 rfl rfl (by cases h; exact ⟨rfl, rfl⟩)
        clear h
        have h := hb7
        refine J_icmp_ne (tgt := 53) d_X_open_45 (by decide) (fun c => ?_) (fun c => ?_)
        · have h := j_ifn c h
          refine J_iload d_X_open_53 rfl ?_
          cases h
          exact kb7
        · have h := j_ifp c h
          refine J_bipush (v := (31 : Int32)) d_X_open_48 (by decide) ?_
          refine J_goto (tgt := 55) d_X_open_50 (by decide) ?_
          cases h
          exact kb7
def m_X_open (s : jS) (a : jB) (p0 : Int32) : Option (Int32) := L_X_open_4 (s) (a) (fun _ => some ((-6 : Int32))) jF (p0) ((0 : Int32))
set_option maxRecDepth 100000 in
set_option maxHeartbeats 4000000 in
theorem c_X_open (l : Launch) (s : jS) (a : jB) (p0 : Int32) (r : Int32) (h : m_X_open s a p0 = some r) : JMet l vwCl NsG (.code y_X_open prog_1_method_14_code 6 (some .int) :: TsG) y_X_open rm_X_open [.ref 0, .int p0] (wX s a) (fun v w => v = some (.int r) ∧ w = wX s a) := by
  refine J_enter (by decide +kernel) rfl (Nat.le_of_ble_eq_true rfl) ?_
  unfold m_X_open at h
  refine J_eq (ls' := [some (.ref 0), some (.int p0), none, none, none, none]) rfl rfl rfl rfl ?_
  refine J_iload_n d_X_open_0 rfl ?_
  refine J_istore_n d_X_open_1 (by decide) ?_
  refine J_iconst (v := (0 : Int32)) d_X_open_2 (by decide) ?_
  refine J_istore_n d_X_open_3 (by decide) ?_
  refine JL_X_open_4 l _ _ _ r (fun _ o8 o9 o10 o11 o12 h => ?_) jF _ _ _ _ _ h
  refine J_bipush (v := (-6 : Int32)) d_X_open_71 (by decide) ?_
  exact J_iret d_X_open_73 rfl rfl (by cases h; exact ⟨rfl, rfl⟩)
abbrev rm_X_isThing : Room := { frames := 0, cells := 0, slots := 0, locals := 0 }
abbrev K_X_isThing (l : Launch) := JW l vwCl NsG TsG "ClassifySort" prog_1_method_20_code 2 (some .boolean) rm_X_isThing
def m_X_isThing (s : jS) (a : jB) (p0 : Int32) : Option (Int32) := jb (if p0 < (0 : Int32) then some (0 : Int32) else (if (s 1) ≤ p0 then some (0 : Int32) else some (1 : Int32))) (fun b1 => jg (jz b1) (some (b1)))
set_option maxRecDepth 100000 in
set_option maxHeartbeats 4000000 in
theorem c_X_isThing (l : Launch) (s : jS) (a : jB) (p0 : Int32) (r : Int32) (h : m_X_isThing s a p0 = some r) : JMet l vwCl NsG (.code y_X_isThing prog_1_method_20_code 2 (some .boolean) :: TsG) y_X_isThing rm_X_isThing [.ref 0, .int p0] (wX s a) (fun v w => v = some (.int r) ∧ w = wX s a) := by
  refine J_enter (by decide +kernel) rfl (Nat.le_of_ble_eq_true rfl) ?_
  unfold m_X_isThing at h
  refine J_eq (ls' := [some (.ref 0), some (.int p0)]) rfl rfl rfl rfl ?_
  refine J_iload_n d_X_isThing_0 rfl ?_
  obtain ⟨b1, hb1, h⟩ := jb_some h
  have kb1 : K_X_isThing l 17 [some (.ref 0), some (.int p0)] [.int b1] (wX s a) (fun v w => v = some (.int r) ∧ w = wX s a) := by
    obtain ⟨g, h⟩ := jg_some h
    exact J_iret d_X_isThing_17 rfl (jz_nar g) (by cases h; exact ⟨rfl, rfl⟩)
  clear h
  have h := hb1
  refine J_if_lt (tgt := 16) d_X_isThing_1 (by decide) (fun c => ?_) (fun c => ?_)
  · have h := j_ifp c h
    refine J_iconst (v := (0 : Int32)) d_X_isThing_16 (by decide) ?_
    cases h
    exact kb1
  · have h := j_ifn c h
    refine J_iload_n d_X_isThing_4 rfl ?_
    refine J_aload_n d_X_isThing_5 rfl ?_
    refine J_get (j := 6) (v := .int (s 1)) d_X_isThing_6 (wX_at0 _ _) rfl in_0 (by decide) ts_29 rfl ?_
    refine J_icmp_ge (tgt := 16) d_X_isThing_9 (by decide) (fun c => ?_) (fun c => ?_)
    · have h := j_ifp c h
      refine J_iconst (v := (0 : Int32)) d_X_isThing_16 (by decide) ?_
      cases h
      exact kb1
    · have h := j_ifn c h
      refine J_iconst (v := (1 : Int32)) d_X_isThing_12 (by decide) ?_
      refine J_goto (tgt := 17) d_X_isThing_13 (by decide) ?_
      cases h
      exact kb1
abbrev rm_X_put : Room := { frames := 2, cells := 0, slots := 0, locals := 41 }
abbrev K_X_put (l : Launch) := JW l vwCl NsG TsG "ClassifySort" prog_1_method_15_code 3 (some .int) rm_X_put
def m_X_put (s : jS) (a : jB) (p0 : Int32) (p1 : Int32) : Option (Int32 × jS × jB) := jb (m_X_isThing s a p0) (fun v2 => (if v2 = (0 : Int32) then some ((-1 : Int32), s, a) else jb (m_X_isClass s a p1) (fun v4 => (if v4 = (0 : Int32) then some ((-1 : Int32), s, a) else jg (jin p0 8) (jb (m_X_has ((a 12) (p0).toNatClampNeg) p1) (fun v6 => (if v6 = (0 : Int32) then jg (jin p0 8) (jb (m_X_bit p1) (fun v8 => jg (jin p0 8) (some ((1 : Int32), s, (va_up a 12 (upd (a 12) (p0).toNatClampNeg (((a 12) (p0).toNatClampNeg) ||| v8))))))) else some ((0 : Int32), s, a))))))))
set_option maxRecDepth 100000 in
set_option maxHeartbeats 4000000 in
theorem c_X_put (l : Launch) (s : jS) (a : jB) (p0 : Int32) (p1 : Int32) (r : Int32 × jS × jB) (h : m_X_put s a p0 p1 = some r) : JMet l vwCl NsG (.code y_X_put prog_1_method_15_code 3 (some .int) :: TsG) y_X_put rm_X_put [.ref 0, .int p0, .int p1] (wX s a) (fun v w => v = some (.int r.1) ∧ w = wX r.2.1 r.2.2) := by
  refine J_enter (by decide +kernel) rfl (Nat.le_of_ble_eq_true rfl) ?_
  unfold m_X_put at h
  refine J_eq (ls' := [some (.ref 0), some (.int p0), some (.int p1)]) rfl rfl rfl rfl ?_
  refine J_aload_n d_X_put_0 rfl ?_
  refine J_iload_n d_X_put_1 rfl ?_
  obtain ⟨v2, e1, h⟩ := jb_some h
  refine J_cVi1 d_X_put_2 (c_X_isThing l _ _ _ _ e1) (wX_at0 _ _) rfl ts_243 ts_good rfl rfl ts_4 ts_244 dy_X_isThing (by decide) (Nat.le_of_ble_eq_true rfl) ts_245 ts_246 ?_
  refine J_if_eq (tgt := 16) d_X_put_5 (by decide) (fun c => ?_) (fun c => ?_)
  · have h := j_ifp c h
    refine J_iconst (v := (-1 : Int32)) d_X_put_16 (by decide) ?_
    exact J_iret d_X_put_17 rfl rfl (by cases h; exact ⟨rfl, rfl⟩)
  · have h := j_ifn c h
    refine J_aload_n d_X_put_8 rfl ?_
    refine J_iload_n d_X_put_9 rfl ?_
    obtain ⟨v4, e3, h⟩ := jb_some h
    refine J_cVi1 d_X_put_10 (c_X_isClass l _ _ _ _ e3) (wX_at0 _ _) rfl ts_30 ts_good rfl rfl ts_4 ts_31 dy_X_isClass (by decide) (Nat.le_of_ble_eq_true rfl) ts_32 ts_33 ?_
    refine J_if_ne (tgt := 18) d_X_put_13 (by decide) (fun c => ?_) (fun c => ?_)
    · have h := j_ifn c h
      refine J_aload_n d_X_put_18 rfl ?_
      refine J_get (j := 4) (v := .ref 12) d_X_put_19 (wX_at0 _ _) rfl in_0 (by decide) ts_247 rfl ?_
      refine J_iload_n d_X_put_22 rfl ?_
      obtain ⟨g, h⟩ := jg_some h
      refine J_iald (f := (a 12)) d_X_put_23 (wX_at12 _ _) (jin_in g) ?_
      refine J_iload_n d_X_put_24 rfl ?_
      obtain ⟨v6, e5, h⟩ := jb_some h
      refine J_cSi2 d_X_put_25 (c_X_has l _ _ _ _ e5) ts_8 ts_good rfl rfl ts_4 ts_213 dy_X_has (by decide) (Nat.le_of_ble_eq_true rfl) ts_9 ?_
      refine J_if_eq (tgt := 33) d_X_put_28 (by decide) (fun c => ?_) (fun c => ?_)
      · have h := j_ifp c h
        refine J_aload_n d_X_put_33 rfl ?_
        refine J_get (j := 4) (v := .ref 12) d_X_put_34 (wX_at0 _ _) rfl in_0 (by decide) ts_247 rfl ?_
        refine J_iload_n d_X_put_37 rfl ?_
        refine J_dup2 d_X_put_38 rfl rfl ?_
        obtain ⟨g, h⟩ := jg_some h
        refine J_iald (f := (a 12)) d_X_put_39 (wX_at12 _ _) (jin_in g) ?_
        refine J_iload_n d_X_put_40 rfl ?_
        obtain ⟨v8, e7, h⟩ := jb_some h
        refine J_cSi1 d_X_put_41 (c_X_bit l _ _ _ e7) ts_3 ts_good rfl rfl ts_4 ts_7 dy_X_bit (by decide) (Nat.le_of_ble_eq_true rfl) ts_5 ?_
        refine J_ior d_X_put_44 ?_
        obtain ⟨g, h⟩ := jg_some h
        refine J_iast (f := (a 12)) d_X_put_45 (wX_at12 _ _) (jin_in g) ?_
        refine J_eq (ws' := wX s (va_up a 12 (upd (a 12) (p0).toNatClampNeg (((a 12) (p0).toNatClampNeg) ||| v8)))) rfl rfl rfl (wX_ast12 _ _ _) ?_
        refine J_iconst (v := (1 : Int32)) d_X_put_46 (by decide) ?_
        exact J_iret d_X_put_47 rfl rfl (by cases h; exact ⟨rfl, rfl⟩)
      · have h := j_ifn c h
        refine J_iconst (v := (0 : Int32)) d_X_put_31 (by decide) ?_
        exact J_iret d_X_put_32 rfl rfl (by cases h; exact ⟨rfl, rfl⟩)
    · have h := j_ifp c h
      refine J_iconst (v := (-1 : Int32)) d_X_put_16 (by decide) ?_
      exact J_iret d_X_put_17 rfl rfl (by cases h; exact ⟨rfl, rfl⟩)
abbrev rm_XR_facts : Room := { frames := 0, cells := 0, slots := 0, locals := 0 }
abbrev K_XR_facts (l : Launch) := JW l vwCl NsG TsG "ClassifySort$Reasoner" prog_5_method_3_code 1 (some .int) rm_XR_facts
def m_XR_facts (s : jS) (a : jB) : Option (Int32) := some ((s 8))
set_option maxRecDepth 100000 in
set_option maxHeartbeats 4000000 in
theorem c_XR_facts (l : Launch) (s : jS) (a : jB) (r : Int32) (h : m_XR_facts s a = some r) : JMet l vwCl NsG (.code y_XR_facts prog_5_method_3_code 1 (some .int) :: TsG) y_XR_facts rm_XR_facts [.ref 4] (wX s a) (fun v w => v = some (.int r) ∧ w = wX s a) := by
  refine J_enter (by decide +kernel) rfl (Nat.le_of_ble_eq_true rfl) ?_
  unfold m_XR_facts at h
  refine J_eq (ls' := [some (.ref 4)]) rfl rfl rfl rfl ?_
  refine J_aload_n d_XR_facts_0 rfl ?_
  refine J_get (j := 4) (v := .int (s 8)) d_XR_facts_1 (wX_at4 _ _) rfl in_2 (by decide) ts_134 rfl ?_
  exact J_iret d_XR_facts_4 rfl rfl (by cases h; exact ⟨rfl, rfl⟩)
abbrev rm_X_type : Room := { frames := 4, cells := 0, slots := 0, locals := 89 }
abbrev K_X_type (l : Launch) := JW l vwCl NsG TsG "ClassifySort" prog_1_method_16_code 3 (some .int) rm_X_type
def m_X_type (s : jS) (a : jB) (p0 : Int32) (p1 : Int32) : Option (Int32 × jS × jB) := jb (m_X_isThing s a p0) (fun v2 => (if v2 = (0 : Int32) then some ((-1 : Int32), s, a) else (if (s 3) = (0 : Int32) then some ((-3 : Int32), s, a) else jg (jin p0 8) (jb3 (m_XR_decide s a ((a 12) (p0).toNatClampNeg) (20 : Int32)) (fun v6 s4 a5 => (if v6 = (1 : Int32) then some ((-5 : Int32), s4, a5) else jb (m_XR_facts s4 a5) (fun v8 => jb (m_XO_lowestAmong s4 a5 v8) (fun v10 => jb (m_XO_firstOfSame s4 a5 v10) (fun v12 => jb (m_X_pick v12 p1) (fun v14 => some (v14, s4, a5)))))))))))
set_option maxRecDepth 100000 in
set_option maxHeartbeats 4000000 in
theorem c_X_type (l : Launch) (s : jS) (a : jB) (p0 : Int32) (p1 : Int32) (r : Int32 × jS × jB) (h : m_X_type s a p0 p1 = some r) : JMet l vwCl NsG (.code y_X_type prog_1_method_16_code 3 (some .int) :: TsG) y_X_type rm_X_type [.ref 0, .int p0, .int p1] (wX s a) (fun v w => v = some (.int r.1) ∧ w = wX r.2.1 r.2.2) := by
  refine J_enter (by decide +kernel) rfl (Nat.le_of_ble_eq_true rfl) ?_
  unfold m_X_type at h
  refine J_eq (ls' := [some (.ref 0), some (.int p0), some (.int p1)]) rfl rfl rfl rfl ?_
  refine J_aload_n d_X_type_0 rfl ?_
  refine J_iload_n d_X_type_1 rfl ?_
  obtain ⟨v2, e1, h⟩ := jb_some h
  refine J_cVi1 d_X_type_2 (c_X_isThing l _ _ _ _ e1) (wX_at0 _ _) rfl ts_243 ts_good rfl rfl ts_4 ts_244 dy_X_isThing (by decide) (Nat.le_of_ble_eq_true rfl) ts_245 ts_246 ?_
  refine J_if_ne (tgt := 10) d_X_type_5 (by decide) (fun c => ?_) (fun c => ?_)
  · have h := j_ifn c h
    refine J_aload_n d_X_type_10 rfl ?_
    refine J_get (j := 8) (v := .int (s 3)) d_X_type_11 (wX_at0 _ _) rfl in_0 (by decide) ts_28 rfl ?_
    refine J_if_ne (tgt := 20) d_X_type_14 (by decide) (fun c => ?_) (fun c => ?_)
    · have h := j_ifn c h
      refine J_aload_n d_X_type_20 rfl ?_
      refine J_get (j := 1) (v := .ref 4) d_X_type_21 (wX_at0 _ _) rfl in_0 (by decide) ts_112 rfl ?_
      refine J_aload_n d_X_type_24 rfl ?_
      refine J_get (j := 4) (v := .ref 12) d_X_type_25 (wX_at0 _ _) rfl in_0 (by decide) ts_247 rfl ?_
      refine J_iload_n d_X_type_28 rfl ?_
      obtain ⟨g, h⟩ := jg_some h
      refine J_iald (f := (a 12)) d_X_type_29 (wX_at12 _ _) (jin_in g) ?_
      refine J_bipush (v := (20 : Int32)) d_X_type_30 (by decide) ?_
      obtain ⟨v6, s4, a5, e3, h⟩ := jb3_some h
      refine J_cVi2 d_X_type_32 (c_XR_decide l _ _ _ _ _ e3) (wX_at4 _ _) rfl ts_143 ts_good rfl rfl ts_122 ts_144 dy_XR_decide (by decide) (Nat.le_of_ble_eq_true rfl) ts_145 ts_146 ?_
      refine J_iconst (v := (1 : Int32)) d_X_type_35 (by decide) ?_
      refine J_icmp_ne (tgt := 42) d_X_type_36 (by decide) (fun c => ?_) (fun c => ?_)
      · have h := j_ifn c h
        refine J_aload_n d_X_type_42 rfl ?_
        refine J_get (j := 3) (v := .ref 11) d_X_type_43 (wX_at0 _ _) rfl in_0 (by decide) ts_147 rfl ?_
        refine J_aload_n d_X_type_46 rfl ?_
        refine J_get (j := 3) (v := .ref 11) d_X_type_47 (wX_at0 _ _) rfl in_0 (by decide) ts_147 rfl ?_
        refine J_aload_n d_X_type_50 rfl ?_
        refine J_get (j := 1) (v := .ref 4) d_X_type_51 (wX_at0 _ _) rfl in_0 (by decide) ts_112 rfl ?_
        obtain ⟨v8, e7, h⟩ := jb_some h
        refine J_cVi0 d_X_type_54 (c_XR_facts l _ _ _ e7) (wX_at4 _ _) rfl ts_248 ts_good rfl rfl ts_122 ts_249 dy_XR_facts (by decide) (Nat.le_of_ble_eq_true rfl) ts_250 ts_251 ?_
        obtain ⟨v10, e9, h⟩ := jb_some h
        refine J_cVi1 d_X_type_57 (c_XO_lowestAmong l _ _ _ _ e9) (wX_at11 _ _) rfl ts_225 ts_good rfl rfl ts_160 ts_252 dy_XO_lowestAmong (by decide) (Nat.le_of_ble_eq_true rfl) ts_227 ts_228 ?_
        obtain ⟨v12, e11, h⟩ := jb_some h
        refine J_cVi1 d_X_type_60 (c_XO_firstOfSame l _ _ _ _ e11) (wX_at11 _ _) rfl ts_209 ts_good rfl rfl ts_160 ts_210 dy_XO_firstOfSame (by decide) (Nat.le_of_ble_eq_true rfl) ts_211 ts_212 ?_
        refine J_iload_n d_X_type_63 rfl ?_
        obtain ⟨v14, e13, h⟩ := jb_some h
        refine J_cSi2 d_X_type_64 (c_X_pick l _ _ _ _ e13) ts_214 ts_good rfl rfl ts_4 ts_215 dy_X_pick (by decide) (Nat.le_of_ble_eq_true rfl) ts_216 ?_
        exact J_iret d_X_type_67 rfl rfl (by cases h; exact ⟨rfl, rfl⟩)
      · have h := j_ifp c h
        refine J_bipush (v := (-5 : Int32)) d_X_type_39 (by decide) ?_
        exact J_iret d_X_type_41 rfl rfl (by cases h; exact ⟨rfl, rfl⟩)
    · have h := j_ifp c h
      refine J_bipush (v := (-3 : Int32)) d_X_type_17 (by decide) ?_
      exact J_iret d_X_type_19 rfl rfl (by cases h; exact ⟨rfl, rfl⟩)
  · have h := j_ifp c h
    refine J_iconst (v := (-1 : Int32)) d_X_type_8 (by decide) ?_
    exact J_iret d_X_type_9 rfl rfl (by cases h; exact ⟨rfl, rfl⟩)
abbrev rm_XR_neededSteps : Room := { frames := 2, cells := 0, slots := 0, locals := 41 }
abbrev K_XR_neededSteps (l : Launch) := JW l vwCl NsG TsG "ClassifySort$Reasoner" prog_5_method_6_code 4 (some .int) rm_XR_neededSteps
def L_XR_neededSteps_42 (s : jS) (a : jB) (k95 : Int32 → Option (Int32)) : Nat → Int32 → Int32 → Int32 → Option (Int32)
  | 0, _, _, _ => none
  | f + 1, x1, x2, x3 => (if x3 < (0 : Int32) then k95 (x1) else jg (jin x3 20) (jb (m_XA_rightOf s a ((a 5) (x3).toNatClampNeg)) (fun v3 => jb (m_X_has x2 v3) (fun v5 => (if v5 = (0 : Int32) then L_XR_neededSteps_42 s a k95 f (x1) (x2) ((x3 + (-1 : Int32))) else jb (m_X_bit x3) (fun v7 => jg (jin x3 20) (jb (m_XA_leftOf s a ((a 5) (x3).toNatClampNeg)) (fun v9 => L_XR_neededSteps_42 s a k95 f ((x1 ||| v7)) ((x2 ||| v9)) ((x3 + (-1 : Int32)))))))))))
set_option maxRecDepth 100000 in
set_option maxHeartbeats 4000000 in
theorem JL_XR_neededSteps_42 (l : Launch) (s : jS) (a : jB) (k95 : Int32 → Option (Int32)) (r : Int32) (hk95 : ∀ (x1 : Int32) (o2 : Option Value) (o3 : Option Value), k95 x1 = some r → K_XR_neededSteps l 95 [some (.ref 4), some (.int x1), o2, o3] [] (wX s a) (fun v w => v = some (.int r) ∧ w = wX s a)) : ∀ (f : Nat), ∀ (x1 : Int32) (x2 : Int32) (x3 : Int32), L_XR_neededSteps_42 s a k95 f x1 x2 x3 = some r → K_XR_neededSteps l 42 [some (.ref 4), some (.int x1), some (.int x2), some (.int x3)] [] (wX s a) (fun v w => v = some (.int r) ∧ w = wX s a) := by
  intro f
  induction f with
  | zero =>
    intro x1 x2 x3 h
    cases h
  | succ f ih =>
    intro x1 x2 x3 h
    rw [L_XR_neededSteps_42] at h
    refine J_iload_n d_XR_neededSteps_42 rfl ?_
    refine J_if_lt (tgt := 95) d_XR_neededSteps_43 (by decide) (fun c => ?_) (fun c => ?_)
    · have h := j_ifp c h
      exact hk95 _ _ _ h
    · have h := j_ifn c h
      refine J_iload_n d_XR_neededSteps_46 rfl ?_
      refine J_aload_n d_XR_neededSteps_47 rfl ?_
      refine J_get (j := 0) (v := .ref 1) d_XR_neededSteps_48 (wX_at4 _ _) rfl in_2 (by decide) ts_136 rfl ?_
      refine J_aload_n d_XR_neededSteps_51 rfl ?_
      refine J_get (j := 1) (v := .ref 5) d_XR_neededSteps_52 (wX_at4 _ _) rfl in_2 (by decide) ts_141 rfl ?_
      refine J_iload_n d_XR_neededSteps_55 rfl ?_
      obtain ⟨g, h⟩ := jg_some h
      refine J_iald (f := (a 5)) d_XR_neededSteps_56 (wX_at5 _ _) (jin_in g) ?_
      obtain ⟨v3, e2, h⟩ := jb_some h
      refine J_cVi1 d_XR_neededSteps_57 (c_XA_rightOf l _ _ _ _ e2) (wX_at1 _ _) rfl ts_80 ts_good rfl rfl ts_41 ts_142 dy_XA_rightOf (by decide) (Nat.le_of_ble_eq_true rfl) ts_82 ts_83 ?_
      obtain ⟨v5, e4, h⟩ := jb_some h
      refine J_cSi2N d_XR_neededSteps_60 (c_X_has l _ _ _ _ e4) ts_8 ts_good rfl rfl ts_4 ns_7 dy_X_has (by decide) (Nat.le_of_ble_eq_true rfl) ts_9 ?_
      refine J_if_eq (tgt := 89) d_XR_neededSteps_63 (by decide) (fun c => ?_) (fun c => ?_)
      · have h := j_ifp c h
        refine J_iinc (v := (x3 + (-1 : Int32))) d_XR_neededSteps_89 rfl (by first | rfl | decide) (by decide) ?_
        refine J_goto (tgt := 42) d_XR_neededSteps_92 (by decide) ?_
        exact ih _ _ _ h
      · have h := j_ifn c h
        refine J_iload_n d_XR_neededSteps_66 rfl ?_
        refine J_iload_n d_XR_neededSteps_67 rfl ?_
        obtain ⟨v7, e6, h⟩ := jb_some h
        refine J_cSi1N d_XR_neededSteps_68 (c_X_bit l _ _ _ e6) ts_3 ts_good rfl rfl ts_4 ns_3 dy_X_bit (by decide) (Nat.le_of_ble_eq_true rfl) ts_5 ?_
        refine J_ior d_XR_neededSteps_71 ?_
        refine J_istore_n d_XR_neededSteps_72 (by decide) ?_
        refine J_iload_n d_XR_neededSteps_73 rfl ?_
        refine J_aload_n d_XR_neededSteps_74 rfl ?_
        refine J_get (j := 0) (v := .ref 1) d_XR_neededSteps_75 (wX_at4 _ _) rfl in_2 (by decide) ts_136 rfl ?_
        refine J_aload_n d_XR_neededSteps_78 rfl ?_
        refine J_get (j := 1) (v := .ref 5) d_XR_neededSteps_79 (wX_at4 _ _) rfl in_2 (by decide) ts_141 rfl ?_
        refine J_iload_n d_XR_neededSteps_82 rfl ?_
        obtain ⟨g, h⟩ := jg_some h
        refine J_iald (f := (a 5)) d_XR_neededSteps_83 (wX_at5 _ _) (jin_in g) ?_
        obtain ⟨v9, e8, h⟩ := jb_some h
        refine J_cVi1 d_XR_neededSteps_84 (c_XA_leftOf l _ _ _ _ e8) (wX_at1 _ _) rfl ts_56 ts_good rfl rfl ts_41 ts_253 dy_XA_leftOf (by decide) (Nat.le_of_ble_eq_true rfl) ts_58 ts_59 ?_
        refine J_ior d_XR_neededSteps_87 ?_
        refine J_istore_n d_XR_neededSteps_88 (by decide) ?_
        refine J_iinc (v := (x3 + (-1 : Int32))) d_XR_neededSteps_89 rfl (by first | rfl | decide) (by decide) ?_
        refine J_goto (tgt := 42) d_XR_neededSteps_92 (by decide) ?_
        exact ih _ _ _ h
def m_XR_neededSteps (s : jS) (a : jB) : Option (Int32) := jb (if (s 7) ≤ (0 : Int32) then some (0 : Int32) else jg (jin ((s 7) - (1 : Int32)) 20) (jb (m_XA_rightOf s a ((a 5) (((s 7) - (1 : Int32))).toNatClampNeg)) (fun v14 => jb (m_X_bit v14) (fun v16 => some v16)))) (fun b1 => L_XR_neededSteps_42 (s) (a) (fun x10 => some (x10)) jF ((0 : Int32)) (b1) (((s 7) - (1 : Int32))))
set_option maxRecDepth 100000 in
set_option maxHeartbeats 4000000 in
theorem c_XR_neededSteps (l : Launch) (s : jS) (a : jB) (r : Int32) (h : m_XR_neededSteps s a = some r) : JMet l vwCl NsG (.code y_XR_neededSteps prog_5_method_6_code 4 (some .int) :: TsG) y_XR_neededSteps rm_XR_neededSteps [.ref 4] (wX s a) (fun v w => v = some (.int r) ∧ w = wX s a) := by
  refine J_enter (by decide +kernel) rfl (Nat.le_of_ble_eq_true rfl) ?_
  unfold m_XR_neededSteps at h
  refine J_eq (ls' := [some (.ref 4), none, none, none]) rfl rfl rfl rfl ?_
  refine J_iconst (v := (0 : Int32)) d_XR_neededSteps_0 (by decide) ?_
  refine J_istore_n d_XR_neededSteps_1 (by decide) ?_
  refine J_aload_n d_XR_neededSteps_2 rfl ?_
  refine J_get (j := 3) (v := .int (s 7)) d_XR_neededSteps_3 (wX_at4 _ _) rfl in_2 (by decide) ts_135 rfl ?_
  obtain ⟨b1, hb1, h⟩ := jb_some h
  have kb1 : K_XR_neededSteps l 34 [some (.ref 4), some (.int (0 : Int32)), none, none] [.int b1] (wX s a) (fun v w => v = some (.int r) ∧ w = wX s a) := by
    refine J_istore_n d_XR_neededSteps_34 (by decide) ?_
    refine J_aload_n d_XR_neededSteps_35 rfl ?_
    refine J_get (j := 3) (v := .int (s 7)) d_XR_neededSteps_36 (wX_at4 _ _) rfl in_2 (by decide) ts_135 rfl ?_
    refine J_iconst (v := (1 : Int32)) d_XR_neededSteps_39 (by decide) ?_
    refine J_isub d_XR_neededSteps_40 ?_
    refine J_istore_n d_XR_neededSteps_41 (by decide) ?_
    refine JL_XR_neededSteps_42 l _ _ _ r (fun x10 o11 o12 h => ?_) jF _ _ _ h
    refine J_iload_n d_XR_neededSteps_95 rfl ?_
    exact J_iret d_XR_neededSteps_96 rfl rfl (by cases h; exact ⟨rfl, rfl⟩)
  clear h
  have h := hb1
  refine J_if_le (tgt := 33) d_XR_neededSteps_6 (by decide) (fun c => ?_) (fun c => ?_)
  · have h := j_ifp c h
    refine J_iconst (v := (0 : Int32)) d_XR_neededSteps_33 (by decide) ?_
    cases h
    exact kb1
  · have h := j_ifn c h
    refine J_aload_n d_XR_neededSteps_9 rfl ?_
    refine J_get (j := 0) (v := .ref 1) d_XR_neededSteps_10 (wX_at4 _ _) rfl in_2 (by decide) ts_136 rfl ?_
    refine J_aload_n d_XR_neededSteps_13 rfl ?_
    refine J_get (j := 1) (v := .ref 5) d_XR_neededSteps_14 (wX_at4 _ _) rfl in_2 (by decide) ts_141 rfl ?_
    refine J_aload_n d_XR_neededSteps_17 rfl ?_
    refine J_get (j := 3) (v := .int (s 7)) d_XR_neededSteps_18 (wX_at4 _ _) rfl in_2 (by decide) ts_135 rfl ?_
    refine J_iconst (v := (1 : Int32)) d_XR_neededSteps_21 (by decide) ?_
    refine J_isub d_XR_neededSteps_22 ?_
    obtain ⟨g, h⟩ := jg_some h
    refine J_iald (f := (a 5)) d_XR_neededSteps_23 (wX_at5 _ _) (jin_in g) ?_
    obtain ⟨v14, e13, h⟩ := jb_some h
    refine J_cVi1 d_XR_neededSteps_24 (c_XA_rightOf l _ _ _ _ e13) (wX_at1 _ _) rfl ts_80 ts_good rfl rfl ts_41 ts_142 dy_XA_rightOf (by decide) (Nat.le_of_ble_eq_true rfl) ts_82 ts_83 ?_
    obtain ⟨v16, e15, h⟩ := jb_some h
    refine J_cSi1N d_XR_neededSteps_27 (c_X_bit l _ _ _ e15) ts_3 ts_good rfl rfl ts_4 ns_3 dy_X_bit (by decide) (Nat.le_of_ble_eq_true rfl) ts_5 ?_
    refine J_goto (tgt := 34) d_XR_neededSteps_30 (by decide) ?_
    cases h
    exact kb1
abbrev rm_XR_firedAt : Room := { frames := 0, cells := 0, slots := 0, locals := 0 }
abbrev K_XR_firedAt (l : Launch) := JW l vwCl NsG TsG "ClassifySort$Reasoner" prog_5_method_4_code 2 (some .int) rm_XR_firedAt
def m_XR_firedAt (s : jS) (a : jB) (p0 : Int32) : Option (Int32) := jb (if p0 < (0 : Int32) then some (-6 : Int32) else (if (s 7) ≤ p0 then some (-6 : Int32) else jg (jin p0 20) (some ((a 5) (p0).toNatClampNeg)))) (fun b1 => some (b1))
set_option maxRecDepth 100000 in
set_option maxHeartbeats 4000000 in
theorem c_XR_firedAt (l : Launch) (s : jS) (a : jB) (p0 : Int32) (r : Int32) (h : m_XR_firedAt s a p0 = some r) : JMet l vwCl NsG (.code y_XR_firedAt prog_5_method_4_code 2 (some .int) :: TsG) y_XR_firedAt rm_XR_firedAt [.ref 4, .int p0] (wX s a) (fun v w => v = some (.int r) ∧ w = wX s a) := by
  refine J_enter (by decide +kernel) rfl (Nat.le_of_ble_eq_true rfl) ?_
  unfold m_XR_firedAt at h
  refine J_eq (ls' := [some (.ref 4), some (.int p0)]) rfl rfl rfl rfl ?_
  refine J_iload_n d_XR_firedAt_0 rfl ?_
  obtain ⟨b1, hb1, h⟩ := jb_some h
  have kb1 : K_XR_firedAt l 23 [some (.ref 4), some (.int p0)] [.int b1] (wX s a) (fun v w => v = some (.int r) ∧ w = wX s a) := by
    exact J_iret d_XR_firedAt_23 rfl rfl (by cases h; exact ⟨rfl, rfl⟩)
  clear h
  have h := hb1
  refine J_if_lt (tgt := 21) d_XR_firedAt_1 (by decide) (fun c => ?_) (fun c => ?_)
  · have h := j_ifp c h
    refine J_bipush (v := (-6 : Int32)) d_XR_firedAt_21 (by decide) ?_
    cases h
    exact kb1
  · have h := j_ifn c h
    refine J_iload_n d_XR_firedAt_4 rfl ?_
    refine J_aload_n d_XR_firedAt_5 rfl ?_
    refine J_get (j := 3) (v := .int (s 7)) d_XR_firedAt_6 (wX_at4 _ _) rfl in_2 (by decide) ts_135 rfl ?_
    refine J_icmp_ge (tgt := 21) d_XR_firedAt_9 (by decide) (fun c => ?_) (fun c => ?_)
    · have h := j_ifp c h
      refine J_bipush (v := (-6 : Int32)) d_XR_firedAt_21 (by decide) ?_
      cases h
      exact kb1
    · have h := j_ifn c h
      refine J_aload_n d_XR_firedAt_12 rfl ?_
      refine J_get (j := 1) (v := .ref 5) d_XR_firedAt_13 (wX_at4 _ _) rfl in_2 (by decide) ts_141 rfl ?_
      refine J_iload_n d_XR_firedAt_16 rfl ?_
      obtain ⟨g, h⟩ := jg_some h
      refine J_iald (f := (a 5)) d_XR_firedAt_17 (wX_at5 _ _) (jin_in g) ?_
      refine J_goto (tgt := 23) d_XR_firedAt_18 (by decide) ?_
      cases h
      exact kb1
abbrev rm_X_trace : Room := { frames := 4, cells := 0, slots := 0, locals := 89 }
abbrev K_X_trace (l : Launch) := JW l vwCl NsG TsG "ClassifySort" prog_1_method_17_code 5 (some .int) rm_X_trace
def m_X_trace (s : jS) (a : jB) (p0 : Int32) (p1 : Int32) (p2 : Int32) : Option (Int32 × jS × jB) := jb (m_X_isClass s a p0) (fun v2 => (if v2 = (0 : Int32) then some ((-1 : Int32), s, a) else jb (m_X_isGoal s a p1) (fun v4 => (if v4 = (0 : Int32) then some ((-1 : Int32), s, a) else jb (m_X_bit p0) (fun v6 => jb (m_X_slot p1) (fun v8 => jb3 (m_XR_decide s a v6 v8) (fun v12 s10 a11 => (if v12 = (1 : Int32) then jb (m_XR_neededSteps s10 a11) (fun v14 => jb (m_X_pick v14 p2) (fun v16 => jb (if v16 = (-6 : Int32) then some (-6 : Int32) else jb (m_XR_firedAt s10 a11 v16) (fun v19 => some v19)) (fun b17 => some (b17, s10, a11)))) else some ((-6 : Int32), s10, a11)))))))))
set_option maxRecDepth 100000 in
set_option maxHeartbeats 4000000 in
theorem c_X_trace (l : Launch) (s : jS) (a : jB) (p0 : Int32) (p1 : Int32) (p2 : Int32) (r : Int32 × jS × jB) (h : m_X_trace s a p0 p1 p2 = some r) : JMet l vwCl NsG (.code y_X_trace prog_1_method_17_code 5 (some .int) :: TsG) y_X_trace rm_X_trace [.ref 0, .int p0, .int p1, .int p2] (wX s a) (fun v w => v = some (.int r.1) ∧ w = wX r.2.1 r.2.2) := by
  refine J_enter (by decide +kernel) rfl (Nat.le_of_ble_eq_true rfl) ?_
  unfold m_X_trace at h
  refine J_eq (ls' := [some (.ref 0), some (.int p0), some (.int p1), some (.int p2), none]) rfl rfl rfl rfl ?_
  refine J_aload_n d_X_trace_0 rfl ?_
  refine J_iload_n d_X_trace_1 rfl ?_
  obtain ⟨v2, e1, h⟩ := jb_some h
  refine J_cVi1 d_X_trace_2 (c_X_isClass l _ _ _ _ e1) (wX_at0 _ _) rfl ts_30 ts_good rfl rfl ts_4 ts_31 dy_X_isClass (by decide) (Nat.le_of_ble_eq_true rfl) ts_32 ts_33 ?_
  refine J_if_eq (tgt := 16) d_X_trace_5 (by decide) (fun c => ?_) (fun c => ?_)
  · have h := j_ifp c h
    refine J_iconst (v := (-1 : Int32)) d_X_trace_16 (by decide) ?_
    exact J_iret d_X_trace_17 rfl rfl (by cases h; exact ⟨rfl, rfl⟩)
  · have h := j_ifn c h
    refine J_aload_n d_X_trace_8 rfl ?_
    refine J_iload_n d_X_trace_9 rfl ?_
    obtain ⟨v4, e3, h⟩ := jb_some h
    refine J_cVi1 d_X_trace_10 (c_X_isGoal l _ _ _ _ e3) (wX_at0 _ _) rfl ts_34 ts_good rfl rfl ts_4 ts_35 dy_X_isGoal (by decide) (Nat.le_of_ble_eq_true rfl) ts_36 ts_37 ?_
    refine J_if_ne (tgt := 18) d_X_trace_13 (by decide) (fun c => ?_) (fun c => ?_)
    · have h := j_ifn c h
      refine J_aload_n d_X_trace_18 rfl ?_
      refine J_get (j := 1) (v := .ref 4) d_X_trace_19 (wX_at0 _ _) rfl in_0 (by decide) ts_112 rfl ?_
      refine J_iload_n d_X_trace_22 rfl ?_
      obtain ⟨v6, e5, h⟩ := jb_some h
      refine J_cSi1 d_X_trace_23 (c_X_bit l _ _ _ e5) ts_3 ts_good rfl rfl ts_4 ts_7 dy_X_bit (by decide) (Nat.le_of_ble_eq_true rfl) ts_5 ?_
      refine J_iload_n d_X_trace_26 rfl ?_
      obtain ⟨v8, e7, h⟩ := jb_some h
      refine J_cSi1 d_X_trace_27 (c_X_slot l _ _ _ e7) ts_45 ts_good rfl rfl ts_4 ts_46 dy_X_slot (by decide) (Nat.le_of_ble_eq_true rfl) ts_47 ?_
      obtain ⟨v12, s10, a11, e9, h⟩ := jb3_some h
      refine J_cVi2 d_X_trace_30 (c_XR_decide l _ _ _ _ _ e9) (wX_at4 _ _) rfl ts_143 ts_good rfl rfl ts_122 ts_144 dy_XR_decide (by decide) (Nat.le_of_ble_eq_true rfl) ts_145 ts_146 ?_
      refine J_iconst (v := (1 : Int32)) d_X_trace_33 (by decide) ?_
      refine J_icmp_eq (tgt := 40) d_X_trace_34 (by decide) (fun c => ?_) (fun c => ?_)
      · have h := j_ifp c h
        refine J_aload_n d_X_trace_40 rfl ?_
        refine J_get (j := 1) (v := .ref 4) d_X_trace_41 (wX_at0 _ _) rfl in_0 (by decide) ts_112 rfl ?_
        obtain ⟨v14, e13, h⟩ := jb_some h
        refine J_cVi0 d_X_trace_44 (c_XR_neededSteps l _ _ _ e13) (wX_at4 _ _) rfl ts_254 ts_good rfl rfl ts_122 ts_255 dy_XR_neededSteps (by decide) (Nat.le_of_ble_eq_true rfl) ts_256 ts_257 ?_
        refine J_iload_n d_X_trace_47 rfl ?_
        obtain ⟨v16, e15, h⟩ := jb_some h
        refine J_cSi2 d_X_trace_48 (c_X_pick l _ _ _ _ e15) ts_214 ts_good rfl rfl ts_4 ts_215 dy_X_pick (by decide) (Nat.le_of_ble_eq_true rfl) ts_216 ?_
        refine J_istore d_X_trace_51 (by decide) ?_
        refine J_iload d_X_trace_53 rfl ?_
        refine J_bipush (v := (-6 : Int32)) d_X_trace_55 (by decide) ?_
        obtain ⟨b17, hb17, h⟩ := jb_some h
        have kb17 : K_X_trace l 74 [some (.ref 0), some (.int p0), some (.int p1), some (.int p2), some (.int v16)] [.int b17] (wX s10 a11) (fun v w => v = some (.int r.1) ∧ w = wX r.2.1 r.2.2) := by
          exact J_iret d_X_trace_74 rfl rfl (by cases h; exact ⟨rfl, rfl⟩)
        clear h
        have h := hb17
        refine J_icmp_ne (tgt := 65) d_X_trace_57 (by decide) (fun c => ?_) (fun c => ?_)
        · have h := j_ifn c h
          refine J_aload_n d_X_trace_65 rfl ?_
          refine J_get (j := 1) (v := .ref 4) d_X_trace_66 (wX_at0 _ _) rfl in_0 (by decide) ts_112 rfl ?_
          refine J_iload d_X_trace_69 rfl ?_
          obtain ⟨v19, e18, h⟩ := jb_some h
          refine J_cVi1 d_X_trace_71 (c_XR_firedAt l _ _ _ _ e18) (wX_at4 _ _) rfl ts_258 ts_good rfl rfl ts_122 ts_259 dy_XR_firedAt (by decide) (Nat.le_of_ble_eq_true rfl) ts_260 ts_261 ?_
          cases h
          exact kb17
        · have h := j_ifp c h
          refine J_bipush (v := (-6 : Int32)) d_X_trace_60 (by decide) ?_
          refine J_goto (tgt := 74) d_X_trace_62 (by decide) ?_
          cases h
          exact kb17
      · have h := j_ifn c h
        refine J_bipush (v := (-6 : Int32)) d_X_trace_37 (by decide) ?_
        exact J_iret d_X_trace_39 rfl rfl (by cases h; exact ⟨rfl, rfl⟩)
    · have h := j_ifp c h
      refine J_iconst (v := (-1 : Int32)) d_X_trace_16 (by decide) ?_
      exact J_iret d_X_trace_17 rfl rfl (by cases h; exact ⟨rfl, rfl⟩)
abbrev rm_XA_thereNow : Room := { frames := 0, cells := 0, slots := 0, locals := 0 }
abbrev K_XA_thereNow (l : Launch) := JW l vwCl NsG TsG "ClassifySort$Axioms" prog_2_method_4_code 1 (some .int) rm_XA_thereNow
def m_XA_thereNow (s : jS) (a : jB) : Option (Int32) := some ((s 5))
set_option maxRecDepth 100000 in
set_option maxHeartbeats 4000000 in
theorem c_XA_thereNow (l : Launch) (s : jS) (a : jB) (r : Int32) (h : m_XA_thereNow s a = some r) : JMet l vwCl NsG (.code y_XA_thereNow prog_2_method_4_code 1 (some .int) :: TsG) y_XA_thereNow rm_XA_thereNow [.ref 1] (wX s a) (fun v w => v = some (.int r) ∧ w = wX s a) := by
  refine J_enter (by decide +kernel) rfl (Nat.le_of_ble_eq_true rfl) ?_
  unfold m_XA_thereNow at h
  refine J_eq (ls' := [some (.ref 1)]) rfl rfl rfl rfl ?_
  refine J_aload_n d_XA_thereNow_0 rfl ?_
  refine J_get (j := 3) (v := .int (s 5)) d_XA_thereNow_1 (wX_at1 _ _) rfl in_1 (by decide) ts_51 rfl ?_
  exact J_iret d_XA_thereNow_4 rfl rfl (by cases h; exact ⟨rfl, rfl⟩)
abbrev rm_XO_placedClasses : Room := { frames := 0, cells := 0, slots := 0, locals := 0 }
abbrev K_XO_placedClasses (l : Launch) := JW l vwCl NsG TsG "ClassifySort$Order" prog_4_method_2_code 1 (some .int) rm_XO_placedClasses
def m_XO_placedClasses (s : jS) (a : jB) : Option (Int32) := some ((s 9))
set_option maxRecDepth 100000 in
set_option maxHeartbeats 4000000 in
theorem c_XO_placedClasses (l : Launch) (s : jS) (a : jB) (r : Int32) (h : m_XO_placedClasses s a = some r) : JMet l vwCl NsG (.code y_XO_placedClasses prog_4_method_2_code 1 (some .int) :: TsG) y_XO_placedClasses rm_XO_placedClasses [.ref 11] (wX s a) (fun v w => v = some (.int r) ∧ w = wX s a) := by
  refine J_enter (by decide +kernel) rfl (Nat.le_of_ble_eq_true rfl) ?_
  unfold m_XO_placedClasses at h
  refine J_eq (ls' := [some (.ref 11)]) rfl rfl rfl rfl ?_
  refine J_aload_n d_XO_placedClasses_0 rfl ?_
  refine J_get (j := 2) (v := .int (s 9)) d_XO_placedClasses_1 (wX_at11 _ _) rfl in_4 (by decide) ts_148 rfl ?_
  exact J_iret d_XO_placedClasses_4 rfl rfl (by cases h; exact ⟨rfl, rfl⟩)
abbrev rm_X_count : Room := { frames := 2, cells := 0, slots := 0, locals := 43 }
abbrev K_X_count (l : Launch) := JW l vwCl NsG TsG "ClassifySort" prog_1_method_18_code 2 (some .int) rm_X_count
def m_X_count (s : jS) (a : jB) (p0 : Int32) : Option (Int32) := (if p0 = (0 : Int32) then some ((s 0)) else (if p0 = (1 : Int32) then jb (m_XA_thereNow s a) (fun v2 => some (v2)) else (if p0 = (2 : Int32) then some ((s 1)) else (if p0 = (3 : Int32) then some ((s 2)) else (if p0 = (4 : Int32) then jb (m_XK_openPairs s a (s 0)) (fun v4 => some (v4)) else (if p0 = (5 : Int32) then jb (if (s 3) = (0 : Int32) then some (0 : Int32) else some (1 : Int32)) (fun b5 => some (b5)) else (if p0 = (6 : Int32) then jb (if (s 3) = (0 : Int32) then some (0 : Int32) else jb (m_XO_placedClasses s a) (fun v8 => jb (m_JI_bitCount v8) (fun v10 => some v10))) (fun b6 => some (b6)) else some ((-2 : Int32)))))))))
set_option maxRecDepth 100000 in
set_option maxHeartbeats 4000000 in
theorem c_X_count (l : Launch) (s : jS) (a : jB) (p0 : Int32) (r : Int32) (h : m_X_count s a p0 = some r) : JMet l vwCl NsG (.code y_X_count prog_1_method_18_code 2 (some .int) :: TsG) y_X_count rm_X_count [.ref 0, .int p0] (wX s a) (fun v w => v = some (.int r) ∧ w = wX s a) := by
  refine J_enter (by decide +kernel) rfl (Nat.le_of_ble_eq_true rfl) ?_
  unfold m_X_count at h
  refine J_eq (ls' := [some (.ref 0), some (.int p0)]) rfl rfl rfl rfl ?_
  refine J_iload_n d_X_count_0 rfl ?_
  by_cases c0 : p0 = (0 : Int32)
  · have h := j_ifp c0 h
    refine J_tabIn (k := (0 : Int32)) (tgt := 44) d_X_count_1 c0 (by decide) (by decide) rfl (by decide) ?_
    refine J_aload_n d_X_count_44 rfl ?_
    refine J_get (j := 5) (v := .int (s 0)) d_X_count_45 (wX_at0 _ _) rfl in_0 (by decide) ts_0 rfl ?_
    exact J_iret d_X_count_48 rfl rfl (by cases h; exact ⟨rfl, rfl⟩)
  have h := j_ifn c0 h
  by_cases c1 : p0 = (1 : Int32)
  · have h := j_ifp c1 h
    refine J_tabIn (k := (1 : Int32)) (tgt := 49) d_X_count_1 c1 (by decide) (by decide) rfl (by decide) ?_
    refine J_aload_n d_X_count_49 rfl ?_
    refine J_get (j := 0) (v := .ref 1) d_X_count_50 (wX_at0 _ _) rfl in_0 (by decide) ts_38 rfl ?_
    obtain ⟨v2, e1, h⟩ := jb_some h
    refine J_cVi0 d_X_count_53 (c_XA_thereNow l _ _ _ e1) (wX_at1 _ _) rfl ts_262 ts_good rfl rfl ts_41 ts_263 dy_XA_thereNow (by decide) (Nat.le_of_ble_eq_true rfl) ts_264 ts_265 ?_
    exact J_iret d_X_count_56 rfl rfl (by cases h; exact ⟨rfl, rfl⟩)
  have h := j_ifn c1 h
  by_cases c2 : p0 = (2 : Int32)
  · have h := j_ifp c2 h
    refine J_tabIn (k := (2 : Int32)) (tgt := 57) d_X_count_1 c2 (by decide) (by decide) rfl (by decide) ?_
    refine J_aload_n d_X_count_57 rfl ?_
    refine J_get (j := 6) (v := .int (s 1)) d_X_count_58 (wX_at0 _ _) rfl in_0 (by decide) ts_29 rfl ?_
    exact J_iret d_X_count_61 rfl rfl (by cases h; exact ⟨rfl, rfl⟩)
  have h := j_ifn c2 h
  by_cases c3 : p0 = (3 : Int32)
  · have h := j_ifp c3 h
    refine J_tabIn (k := (3 : Int32)) (tgt := 62) d_X_count_1 c3 (by decide) (by decide) rfl (by decide) ?_
    refine J_aload_n d_X_count_62 rfl ?_
    refine J_get (j := 7) (v := .int (s 2)) d_X_count_63 (wX_at0 _ _) rfl in_0 (by decide) ts_200 rfl ?_
    exact J_iret d_X_count_66 rfl rfl (by cases h; exact ⟨rfl, rfl⟩)
  have h := j_ifn c3 h
  by_cases c4 : p0 = (4 : Int32)
  · have h := j_ifp c4 h
    refine J_tabIn (k := (4 : Int32)) (tgt := 67) d_X_count_1 c4 (by decide) (by decide) rfl (by decide) ?_
    refine J_aload_n d_X_count_67 rfl ?_
    refine J_get (j := 2) (v := .ref 6) d_X_count_68 (wX_at0 _ _) rfl in_0 (by decide) ts_1 rfl ?_
    refine J_aload_n d_X_count_71 rfl ?_
    refine J_get (j := 5) (v := .int (s 0)) d_X_count_72 (wX_at0 _ _) rfl in_0 (by decide) ts_0 rfl ?_
    obtain ⟨v4, e3, h⟩ := jb_some h
    refine J_cVi1 d_X_count_75 (c_XK_openPairs l _ _ _ _ e3) (wX_at6 _ _) rfl ts_108 ts_good rfl rfl ts_11 ts_109 dy_XK_openPairs (by decide) (Nat.le_of_ble_eq_true rfl) ts_110 ts_111 ?_
    exact J_iret d_X_count_78 rfl rfl (by cases h; exact ⟨rfl, rfl⟩)
  have h := j_ifn c4 h
  by_cases c5 : p0 = (5 : Int32)
  · have h := j_ifp c5 h
    refine J_tabIn (k := (5 : Int32)) (tgt := 79) d_X_count_1 c5 (by decide) (by decide) rfl (by decide) ?_
    refine J_aload_n d_X_count_79 rfl ?_
    refine J_get (j := 8) (v := .int (s 3)) d_X_count_80 (wX_at0 _ _) rfl in_0 (by decide) ts_28 rfl ?_
    obtain ⟨b5, hb5, h⟩ := jb_some h
    have kb5 : K_X_count l 91 [some (.ref 0), some (.int p0)] [.int b5] (wX s a) (fun v w => v = some (.int r) ∧ w = wX s a) := by
      exact J_iret d_X_count_91 rfl rfl (by cases h; exact ⟨rfl, rfl⟩)
    clear h
    have h := hb5
    refine J_if_eq (tgt := 90) d_X_count_83 (by decide) (fun c => ?_) (fun c => ?_)
    · have h := j_ifp c h
      refine J_iconst (v := (0 : Int32)) d_X_count_90 (by decide) ?_
      cases h
      exact kb5
    · have h := j_ifn c h
      refine J_iconst (v := (1 : Int32)) d_X_count_86 (by decide) ?_
      refine J_goto (tgt := 91) d_X_count_87 (by decide) ?_
      cases h
      exact kb5
  have h := j_ifn c5 h
  by_cases c6 : p0 = (6 : Int32)
  · have h := j_ifp c6 h
    refine J_tabIn (k := (6 : Int32)) (tgt := 92) d_X_count_1 c6 (by decide) (by decide) rfl (by decide) ?_
    refine J_aload_n d_X_count_92 rfl ?_
    refine J_get (j := 8) (v := .int (s 3)) d_X_count_93 (wX_at0 _ _) rfl in_0 (by decide) ts_28 rfl ?_
    obtain ⟨b6, hb6, h⟩ := jb_some h
    have kb6 : K_X_count l 113 [some (.ref 0), some (.int p0)] [.int b6] (wX s a) (fun v w => v = some (.int r) ∧ w = wX s a) := by
      exact J_iret d_X_count_113 rfl rfl (by cases h; exact ⟨rfl, rfl⟩)
    clear h
    have h := hb6
    refine J_if_eq (tgt := 112) d_X_count_96 (by decide) (fun c => ?_) (fun c => ?_)
    · have h := j_ifp c h
      refine J_iconst (v := (0 : Int32)) d_X_count_112 (by decide) ?_
      cases h
      exact kb6
    · have h := j_ifn c h
      refine J_aload_n d_X_count_99 rfl ?_
      refine J_get (j := 3) (v := .ref 11) d_X_count_100 (wX_at0 _ _) rfl in_0 (by decide) ts_147 rfl ?_
      obtain ⟨v8, e7, h⟩ := jb_some h
      refine J_cVi0 d_X_count_103 (c_XO_placedClasses l _ _ _ e7) (wX_at11 _ _) rfl ts_266 ts_good rfl rfl ts_160 ts_267 dy_XO_placedClasses (by decide) (Nat.le_of_ble_eq_true rfl) ts_268 ts_269 ?_
      obtain ⟨v10, e9, h⟩ := jb_some h
      refine J_cSi1 d_X_count_106 (c_JI_bitCount l _ _ _ e9) ts_72 ts_good rfl rfl ts_73 ts_74 dy_JI_bitCount (by decide) (Nat.le_of_ble_eq_true rfl) ts_75 ?_
      refine J_goto (tgt := 113) d_X_count_109 (by decide) ?_
      cases h
      exact kb6
  have h := j_ifn c6 h
  refine J_tableOut (tgt := 114) d_X_count_1 (j_out7 c0 c1 c2 c3 c4 c5 c6) (by decide) ?_
  refine J_bipush (v := (-2 : Int32)) d_X_count_114 (by decide) ?_
  exact J_iret d_X_count_116 rfl rfl (by cases h; exact ⟨rfl, rfl⟩)
